import java.util.Random;

/** Long runs of calls by chance, each answer and then the whole disk held against the model. */
public final class AgainstModelTest {
    private static final String[] NAMES = {
        "A", "a", "README", "readme", "README.TXT", "Readme.txt", "x.y.z", ".hidden", "..double", " .lead", "a b c",
        "Long name number one.text", "Long name number two.text", "LONGNA~1.TEX", "LONGNA~2.TEX", "longna~1.tex",
        "thirteen unit", "fourteen units", "twelve units", "\u00e9t\u00e9.\u65e5\u672c", "~1", "~~", "+,;=[]", "A.B",
        "A.BCDE", "ABCDEFGHI", "ABCDEFGH.IJK", "!#$%&'()", "-@^_`{}~", "a.b.c.d", "\ufffd", "\u0080", "\u07ff\u0800",
        "", ".", "..", "end.", "end ", "sl/ash", "qu\"", "st*r", "c:", "<", ">", "?", "\\", "|", "\u007f", "\u001f",
        "\ud800x", "x\udfff", "\ufffe", "\uffff", "\ud7ff\ue000", "x ", ". .", "a..b", "ABC.", "AB CD", "A .B"
    };
    private static final int[] SPECIAL = {0, 1, 2, 5, 8, 15, 16, 32, 46, 63, 64, 65, 66, 127, 128, 229, 248, 255};

    /** A run stops here; a last step may go somewhat further, and calls are left to look with. */
    private static final int CHANGES = 290;

    private final Random random;
    private final Run x;
    private final Model m;
    private final String run;
    private byte[] compared;

    private AgainstModelTest(long seed) {
        random = new Random(seed);
        int sectors = random.nextInt(3) == 0 ? 200 + random.nextInt(900) : 256 + random.nextInt(20);
        x = new Run(sectors);
        m = new Model(sectors);
        compared = m.disk.clone();
        run = "run " + seed;
    }

    public static void main(String[] args) {
        int runs = args.length > 0 ? Integer.parseInt(args[0]) : 300;
        for (int seed = 0; seed < runs; seed++) {
            new AgainstModelTest(seed).go(seed % 15 == 0);
        }
        Kit.end();
    }

    private void go(boolean wholeDisk) {
        for (int i = 0; i < 20 && m.fault() != 0; i++) {
            step(0);
        }
        while (x.changes() < CHANGES) {
            step(pick());
            compareChanged();
        }
        for (int i = 0; i < m.disk.length; i++) {
            if (wholeDisk || random.nextInt(100) == 0) {
                compareByte(x, i, m.byteAt(i / 512, i % 512));
            }
        }
        compareFree(wholeDisk);
    }

    private int pick() {
        int roll = random.nextInt(100);
        return roll < 1 ? 0 : roll < 30 ? 1 : roll < 38 ? 2 : roll < 45 ? 3 : roll < 50 ? 4 : roll < 56 ? 5
                : roll < 62 ? 6 : roll < 72 ? 7 : roll < 77 ? 8 : roll < 89 ? 9 : roll < 92 ? 10 : roll < 96 ? 11 : 12;
    }

    private void compareByte(Run seen, int at, int want) {
        Kit.due(run + " after " + x.changes() + " calls, byte " + at % 512 + " of sector " + at / 512,
                seen.byteAt(at / 512, at % 512), want);
    }

    /** What the last step changed, or some of it. */
    private void compareChanged() {
        int left = 60;
        for (int i = 0; i < m.disk.length && left > 0; i++) {
            if (m.disk[i] != compared[i]) {
                compareByte(x, i, m.byteAt(i / 512, i % 512));
                left--;
            }
        }
        compared = m.disk.clone();
    }

    /** Without a sector 0 that is as told, byteAt shows free clusters as well. */
    private void compareFree(boolean wholeDisk) {
        Run open = x.fork();
        open.poke(0, 510, 0);
        for (int i = 512; i < m.disk.length; i++) {
            if (wholeDisk || random.nextInt(100) == 0) {
                compareByte(open, i, m.disk[i] & 255);
            }
        }
    }

    /** A call that answers a number. */
    private interface Answer {
        long get();
    }

    private long both(String what, Answer mine, Answer model) {
        long[] got = outcome(mine);
        long[] want = outcome(model);
        Kit.due(run + " " + what + " throws", got[0], want[0]);
        Kit.due(run + " " + what, got[1], want[1]);
        return want[0] == Kit.NOTHING ? want[1] : -1;
    }

    private static long[] outcome(Answer answer) {
        long[] value = {0, 0};
        value[0] = Kit.thrown(() -> value[1] = answer.get());
        return value;
    }

    private void tape(byte[] bytes) {
        for (int from = 0; from < bytes.length; from += 20) {
            int n = Math.min(20, bytes.length - from);
            int[] w = new int[5];
            for (int i = 0; i < n; i++) {
                w[i / 4] |= (bytes[from + i] & 255) << (24 - 8 * (i % 4));
            }
            x.feed(w[0], w[1], w[2], w[3], w[4]);
            m.feed(w);
            both("end", () -> x.end(n), () -> m.end(n));
        }
    }

    private int item() {
        long[] count = outcome(m::items);
        int n = count[0] == Kit.NOTHING ? (int) count[1] : 0;
        return random.nextInt(15) == 0 ? random.nextInt(4) - 2 + n : n == 0 ? 0 : random.nextInt(n);
    }

    private String name() {
        int roll = random.nextInt(6);
        if (roll < 3) {
            return NAMES[random.nextInt(NAMES.length)];
        }
        if (roll == 3) {
            return "n" + random.nextInt(1000) + " of many.txt";
        }
        int length = random.nextInt(15) == 0 ? 250 + random.nextInt(10) : 1 + random.nextInt(roll == 4 ? 12 : 60);
        StringBuilder name = new StringBuilder();
        for (int i = 0; i < length; i++) {
            name.append("abcdeABCDE ._+\u00e4".charAt(random.nextInt(15)));
        }
        return name.toString();
    }

    private void step(int kind) {
        int k = kind > 1 && kind < 9 ? item() : 0;
        int a = random.nextInt();
        switch (kind) {
            case 0:
                format();
                break;
            case 1: {
                tape(Kit.unitBytes(name()));
                if (random.nextInt(40) == 0) {
                    tape(new byte[] {65});
                }
                boolean folder = random.nextInt(3) == 0;
                both("make", () -> x.make(folder), () -> m.make(folder));
                break;
            }
            case 2: {
                byte[] bytes = new byte[random.nextInt(4) == 0 ? 0 : random.nextInt(random.nextInt(10) == 0 ? 1200 : 200)];
                random.nextBytes(bytes);
                tape(bytes);
                both("write " + k, () -> x.write(k), () -> m.write(k));
                break;
            }
            case 3: {
                int[] sizes = {0, 1, 1024, 2048, 4096, 400000, 400001, -1, random.nextInt(9000), random.nextInt(90000)};
                int n = sizes[random.nextInt(sizes.length)];
                both("grow " + k + " " + n, () -> x.grow(k, n, a), () -> m.grow(k, n, a));
                break;
            }
            case 4: {
                long[] size = outcome(() -> m.about(k, 5));
                int roll = random.nextInt(4);
                int to = roll == 0 ? 0 : roll == 1 ? (int) size[1] + random.nextInt(3) - 1
                        : (int) (size[1] * random.nextDouble()) / (roll == 2 ? 1 : 1024) * (roll == 2 ? 1 : 1024);
                both("cut " + k + " " + to, () -> x.cut(k, to), () -> m.cut(k, to));
                break;
            }
            case 5:
                both("remove " + k, () -> answerless(() -> x.remove(k)), () -> answerless(() -> m.remove(k)));
                break;
            case 6:
                stamp(k);
                break;
            case 7:
                both("enter " + k, () -> x.enter(k), () -> m.enter(k));
                break;
            case 8:
                both("up", () -> x.up() ? 1 : 0, () -> m.up() ? 1 : 0);
                break;
            case 9:
                look();
                break;
            case 10:
                pokeAndBack();
                break;
            case 11:
                mess();
                break;
            default:
                pokeHarmlessly();
        }
    }

    private static long answerless(Kit.Call call) {
        call.run();
        return 0;
    }

    private void format() {
        String[] labels = {"", "", "DEMO", "A B  C", " A", "small", "ELEVEN BYTE", "TWELVE BYTES", "!#$%&'()-@^", "_`{}~",
            "A.B", "X~1"};
        String label = labels[random.nextInt(labels.length)];
        byte[] bytes = new byte[label.length()];
        for (int i = 0; i < bytes.length; i++) {
            bytes[i] = (byte) label.charAt(i);
        }
        tape(bytes);
        int[] clusters = {2, 4, 8, 2, 4, 8, 2, 4, 8, 1, 0, 16, 3, -2};
        int c = clusters[random.nextInt(clusters.length)];
        int v = random.nextInt(10) == 0 ? random.nextInt(70) : 8 + random.nextInt(57);
        int y = random.nextInt(20) == 0 ? 3 * random.nextInt(2) : 1 + random.nextInt(2);
        int id = random.nextInt();
        both("format", () -> x.format(c, v, y, id), () -> m.format(c, v, y, id));
    }

    private void stamp(int k) {
        int what = random.nextInt(6);
        int[] days = {0, 33, 65535, 65536, -1, 44 * 512 + 2 * 32 + 29, 120 * 512 + 2 * 32 + 29, 20 * 512 + 2 * 32 + 29,
            random.nextInt(65536), random.nextInt(128) * 512 + 32 * (1 + random.nextInt(12)) + 1 + random.nextInt(31)};
        int[] times = {0, 0, 0, 1, 1, 199, 200, 256, -1, 65536, 23 * 2048 + 59 * 32 + 29, random.nextInt(65536)};
        int day = days[random.nextInt(days.length)];
        int time = times[random.nextInt(times.length)];
        both("stamp " + k + " " + what + " " + day + " " + time, () -> answerless(() -> x.stamp(k, what, day, time)),
                () -> answerless(() -> m.stamp(k, what, day, time)));
    }

    private void look() {
        int k = item();
        int i = random.nextInt(40) - 2;
        both("items", x::items, m::items);
        both("letter", () -> x.letter(k, i), () -> m.letter(k, i));
        for (int what = -1; what <= 7; what++) {
            int w = what;
            both("about " + k + " " + w, () -> x.about(k, w), () -> m.about(k, w));
        }
        int at = random.nextInt(10000) - 5;
        both("content " + k + " " + at, () -> x.content(k, at), () -> m.content(k, at));
        both("free", x::free, m::free);
        both("fault", x::fault, m::fault);
    }

    private void poke(int at, int value) {
        both("poke", () -> x.poke(at / 512, at % 512, value) ? 1 : 0, () -> m.poke(at / 512, at % 512, value) ? 1 : 0);
    }

    /** A place where a fault is likely to be made: sector 0, the tables, or slots. */
    private int place() {
        int begin = (int) (m.get(14, 2) + m.get(16, 1) * m.get(36, 4));
        int roll = random.nextInt(10);
        int at = roll == 0 ? random.nextInt(68) : roll < 3 ? (int) m.get(14, 2) * 512 + random.nextInt(400)
                : begin * 512 + random.nextInt(roll < 7 ? 40 : 400) * 32 + random.nextInt(32);
        return Math.floorMod(at, m.sectors * 512);
    }

    private void pokeAndBack() {
        int at = place();
        int old = (int) m.get(at, 1);
        int value = random.nextBoolean() ? SPECIAL[random.nextInt(SPECIAL.length)] : old ^ 1 << random.nextInt(8);
        poke(at, value);
        both("fault after poke of " + at + " with " + value, x::fault, m::fault);
        both("items after poke", x::items, m::items);
        both("free after poke", x::free, m::free);
        if (m.fault() != 0) {
            poke(at, old);
        }
        both("fault after poke back", x::fault, m::fault);
    }

    /** Several changes at once, so that faults of all kinds come in any order; all of them are taken back. */
    private void mess() {
        if (m.fault() != 0) {
            return;
        }
        byte[] kept = m.disk.clone();
        int changes = 1 + random.nextInt(3);
        for (int i = 0; i < changes; i++) {
            change(random.nextInt(6));
            both("fault of a mess", x::fault, m::fault);
        }
        both("free of a mess", x::free, m::free);
        both("items of a mess", x::items, m::items);
        for (int i = 0; i < kept.length; i++) {
            if (m.disk[i] != kept[i]) {
                poke(i, kept[i]);
            }
        }
    }

    private void change(int kind) {
        int slot = place() / 32 * 32;
        int other = slot / 1024 * 1024 + random.nextInt(32) * 32;
        int v = (int) m.get(14, 2);
        int y = Math.min(2, (int) m.get(16, 1));
        int z = Math.min(32, (int) m.get(36, 4));
        if (kind == 0) {
            for (int i = 0; i < 32; i++) {
                poke(other + i, (int) m.get(slot + i, 1));
            }
        } else if (kind == 1) {
            // small letters in place of capitals and the other way round
            poke(slot + 14, (int) m.get(slot + 14, 1) ^ 32);
            poke(slot + 1, (int) m.get(slot + 1, 1) ^ 32);
        } else if (kind == 2) {
            int c = random.nextInt(40);
            int value = random.nextInt(4) == 0 ? 0 : random.nextInt(3) == 0 ? 268435447 + random.nextInt(9)
                    : random.nextInt(140);
            for (int t = 0; t < y; t++) {
                for (int i = 0; i < 4; i++) {
                    poke((v + t * z) * 512 + 4 * c + i, value >> 8 * i);
                }
            }
        } else if (kind == 3) {
            poke(slot + 26, random.nextInt(40));
        } else if (kind == 4) {
            poke(slot + 28 + random.nextInt(2), random.nextInt(256));
        } else {
            poke(slot + 11, SPECIAL[random.nextInt(SPECIAL.length)]);
        }
    }

    /** What a sound volume may have, but this class never writes by itself. */
    private void pokeHarmlessly() {
        if (m.fault() != 0) {
            return;
        }
        int v = (int) m.get(14, 2);
        int y = (int) m.get(16, 1);
        int z = (int) m.get(36, 4);
        int cluster = 2 + random.nextInt(30);
        int high = random.nextInt(16);
        boolean ending = (m.get(v * 512 + 4 * cluster, 4) & 0xFFFFFFF) >= 268435448;
        int low = random.nextInt(8);
        for (int t = 0; t < y; t++) {
            int at = (v + t * z) * 512 + 4 * cluster;
            poke(at + 3, (int) m.get(at + 3, 1) % 16 + 16 * high);
            if (ending) {
                poke(at, 248 + low);
            }
        }
        int slot = (v + y * z) * 512 + random.nextInt(64) * 32;
        if (m.get(slot, 1) == 0) {
            int value = random.nextInt(256);
            poke(slot + 1 + random.nextInt(31), value);
            both("fault after harmless poke", x::fault, m::fault);
        }
    }
}
