import java.util.Random;

/** Calls with any arguments on disks with anything on them: nothing but the document's exceptions, ever. */
public final class WildCallsTest {
    private static final int[] EDGES = {0, 1, 2, 3, 4, 8, 15, 16, 31, 32, 64, 127, 128, 229, 255, 256, 511, 512, 1023, 4096, 65535,
        400000, -1, -2, Integer.MIN_VALUE, Integer.MAX_VALUE};

    public static void main(String[] args) {
        for (int seed = 0; seed < 1200; seed++) {
            run(new Random(seed), seed);
        }
        Kit.end();
    }

    private static void run(Random random, int seed) {
        TableVolumes x = new TableVolumes(any(random));
        if (seed % 4 != 0) {
            x.format(2 << random.nextInt(3), 8 + random.nextInt(57), 1 + random.nextInt(2), any(random));
        }
        // at most three calls each, so that with format there are never more than 512
        for (int call = 0; call < 170; call++) {
            int kind = random.nextInt(24);
            int thrown = Kit.thrown(() -> call(x, random, kind));
            Kit.holds("run " + seed + " call " + call + " of kind " + kind, mayThrow(kind, thrown));
        }
    }

    private static int any(Random random) {
        return random.nextInt(3) == 0 ? random.nextInt() : EDGES[random.nextInt(EDGES.length)];
    }

    private static int few(Random random) {
        return random.nextInt(8) == 0 ? any(random) : random.nextInt(4);
    }

    private static boolean mayThrow(int kind, int thrown) {
        if (thrown == Kit.NOTHING) {
            return true;
        }
        String allowed;
        switch (kind) {
            case 3: allowed = "3"; break;
            case 8: case 13: allowed = "1"; break;
            case 9: case 11: allowed = "12"; break;
            case 10: case 12: case 17: case 18: case 19: allowed = "123"; break;
            case 14: allowed = "134"; break;
            case 15: case 16: allowed = "1234"; break;
            default: allowed = "";
        }
        return allowed.indexOf('0' + thrown) >= 0;
    }

    private static void call(TableVolumes x, Random random, int kind) {
        switch (kind) {
            case 0: x.feed(any(random), any(random), any(random), any(random), any(random)); break;
            case 1: x.end(random.nextInt(4) == 0 ? any(random) : random.nextInt(21)); break;
            case 2: x.clear(); break;
            case 3:
                if (random.nextInt(8) == 0) {
                    x.format(any(random), any(random), few(random), any(random));
                }
                break;
            case 4: x.poke(any(random), any(random), any(random)); break;
            case 5: x.fault(); break;
            case 6: x.byteAt(any(random), any(random)); break;
            case 7: x.free(); break;
            case 8: x.items(); break;
            case 9: x.letter(few(random), any(random)); break;
            case 10: x.about(few(random), few(random) + few(random)); break;
            case 11: x.content(few(random), any(random)); break;
            case 12: x.enter(few(random)); break;
            case 13: x.up(); break;
            case 14: x.make(random.nextBoolean()); break;
            case 15: x.write(few(random)); break;
            case 16: x.grow(few(random), any(random), any(random)); break;
            case 17: x.cut(few(random), any(random)); break;
            case 18: x.remove(few(random)); break;
            case 19: x.stamp(few(random), few(random), any(random), any(random)); break;
            case 20:
                // a name that is likely to be taken
                x.clear();
                x.feed(0x410000 + 'A' + random.nextInt(60), 0x420043, 0, 0, 0);
                x.end(8);
                break;
            case 21: x.poke(random.nextInt(80), random.nextInt(128), EDGES[random.nextInt(15)]); break;
            case 22: x.poke(0, random.nextInt(52), EDGES[random.nextInt(20)]); break;
            default: x.fault();
        }
    }

    private WildCallsTest() {
    }
}
