import java.util.Arrays;

/** Promises 17 write, 18 grow, 19 cut. */
public final class FileTest {
    private static final int ROOT = 10;
    private static final int END = 268435455;

    public static void main(String[] args) {
        Kit.says("The tape's bytes come behind those of file k: its size.", FileTest::write);
        Kit.says("size / (512 * C), up", FileTest::fullClusters);
        Kit.says("THE TAPE: at most 4096 bytes", FileTest::wholeTape);
        Kit.says("IllegalArgumentException if it is a directory.", FileTest::writeToDirectory);
        Kit.says("Likewise n bytes, of which byte i is the lowest eight bits of seed + i * i + (i >> 8).", FileTest::grow);
        Kit.says("IllegalArgumentException also if n is not 0 .. 400000.", FileTest::growRefused);
        Kit.says("UnsupportedOperationException (there is no room)", FileTest::noRoom);
        Kit.says("File k keeps its first size bytes", FileTest::kept);
        Kit.says("how many clusters became free", FileTest::freed);
        Kit.says("(if none, the tables stay as they are)", FileTest::tablesStay);
        Kit.says("IllegalArgumentException also if size is not 0 .. its size.", FileTest::cutRefused);
        Kit.says("Nothing is promised beyond the answers and state changes described above", FileTest::neighbours);
        Kit.end();
    }

    /** F is item 0, the directory D, cluster 3, item 1; cluster 4 is sectors 14 and 15. */
    private static Run made() {
        Run x = new Run(256);
        x.format(2, 8, 2, 0);
        Kit.makeFile(x, "F");
        Kit.makeDirectory(x, "D");
        return x;
    }

    private static String contents(Run x, int from, int n) {
        StringBuilder text = new StringBuilder();
        for (int i = from; i < from + n; i++) {
            text.append((char) x.content(0, i));
        }
        return text.toString();
    }

    private static void write() {
        Run x = made();
        Kit.due("nothing", x.write(0), 0);
        Kit.due("first cluster", Kit.number(x, ROOT, 26, 2), 0);
        Kit.due("no cluster is taken", x.free(), 121);
        Kit.due("five", Kit.writeText(x, 0, "first"), 5);
        Kit.due("six more", Kit.writeText(x, 0, "second"), 11);
        Kit.due("nothing more", x.write(0), 11);
        Kit.due("text", contents(x, 0, 11), "firstsecond");
        Kit.due("size", Kit.number(x, ROOT, 28, 4), 11);
        Kit.due("first cluster", Kit.number(x, ROOT, 26, 2), 4);
        Kit.due("the rest of the cluster", x.byteAt(14, 11), 0);
        Kit.due("days stay", Kit.number(x, ROOT, 22, 4), 33 << 16);
        x.stamp(0, 4, 0, 1);
        Kit.due("no sentence forbids it for READ ONLY", Kit.writeText(x, 0, "!"), 12);
        Kit.due("no such item", Kit.thrown(() -> x.write(2)), Kit.INDEX);
        Kit.sound(x);
    }

    /** One byte less than a cluster, a cluster, one byte more. */
    private static void fullClusters() {
        for (int c = 2; c <= 8; c *= 2) {
            int bytes = 512 * c;
            Run x = new Run(256);
            x.format(c, 8, 2, 0);
            Kit.makeFile(x, "F");
            int all = x.free();
            Kit.due("a byte less", x.grow(0, bytes - 1, 0), bytes - 1);
            Kit.due("one cluster", x.free(), all - 1);
            Kit.due("a byte", Kit.writeText(x, 0, "a"), bytes);
            Kit.due("one cluster", x.free(), all - 1);
            Kit.due("its end", Kit.number(x, 8, 12, 4), END);
            Kit.due("nothing", x.write(0), bytes);
            Kit.due("one cluster", x.free(), all - 1);
            Kit.due("a byte more", Kit.writeText(x, 0, "b"), bytes + 1);
            Kit.due("two clusters", x.free(), all - 2);
            Kit.due("the next", Kit.number(x, 8, 12, 4), 4);
            Kit.due("its end", Kit.number(x, 8, 16, 4), END);
            Kit.due("over the edge", Kit.writeText(x, 0, "cd"), bytes + 3);
            Kit.due("bytes", contents(x, bytes - 1, 4), "abcd");
            Kit.sound(x);
        }
    }

    private static void wholeTape() {
        Run x = made();
        byte[] bytes = new byte[4096];
        for (int i = 0; i < bytes.length; i++) {
            bytes[i] = (byte) (i * 7 + i / 256);
        }
        Kit.tape(x, bytes);
        Kit.due("4096", x.write(0), 4096);
        Kit.due("four clusters", x.free(), 117);
        for (int i = 0; i < 4096; i++) {
            Kit.due("byte " + i, x.content(0, i), bytes[i] & 255);
        }
        for (int c = 4; c <= 7; c++) {
            for (int table = 8; table <= 9; table++) {
                Kit.due("entry " + c, Kit.number(x, table, 4 * c, 4), c == 7 ? END : c + 1);
            }
        }
        Kit.sound(x);
    }

    private static void writeToDirectory() {
        Run x = made();
        Kit.tape(x, "text");
        Kit.throwsDue("write to a directory", () -> x.write(1), Kit.ARGUMENT);
        Kit.throwsDue("nothing to write to it", () -> x.write(1), Kit.ARGUMENT);
        Kit.throwsDue("grow a directory", () -> x.grow(1, 0, 0), Kit.ARGUMENT);
        Kit.throwsDue("cut a directory", () -> x.cut(1, 0), Kit.ARGUMENT);
        Kit.due("size", Kit.number(x, ROOT, 32 + 28, 4), 0);
        Kit.sound(x);
    }

    private static int wanted(long seed, long i) {
        return (int) ((seed + i * i + (i >> 8)) & 255);
    }

    private static void grow() {
        Run x = new Run(1024);
        x.format(2, 8, 2, 0);
        Kit.makeFile(x, "F");
        Kit.due("nothing", x.grow(0, 0, 5), 0);
        Kit.due("free", x.free(), 503);
        Kit.due("one", x.grow(0, 1, 300), 1);
        Kit.due("seed's lowest eight bits", x.content(0, 0), 44);
        Kit.due("1500 more", x.grow(0, 1500, -1), 1501);
        for (int i = 0; i < 1500; i++) {
            Kit.due("byte " + i, x.content(0, i + 1), wanted(-1, i));
        }
        Kit.due("the most", x.grow(0, 400000, Integer.MAX_VALUE), 401501);
        for (int i = 0; i < 400000; i += 997) {
            Kit.due("byte " + i, x.content(0, i + 1501), wanted(Integer.MAX_VALUE, i));
        }
        Kit.due("last byte", x.content(0, 401500), wanted(Integer.MAX_VALUE, 399999));
        Kit.due("clusters", x.free(), 503 - 393);
        Kit.due("days stay", x.about(0, 4), 315532800L);
        Kit.sound(x);
        for (int seed : new int[] {0, 255, 256, Integer.MIN_VALUE}) {
            Run y = made();
            y.grow(0, 600, seed);
            for (int i : new int[] {0, 1, 15, 16, 17, 255, 256, 257, 511, 512, 599}) {
                Kit.due("byte " + i + " of seed " + seed, y.content(0, i), wanted(seed, i));
            }
        }
    }

    private static void growRefused() {
        Run x = new Run(1024);
        x.format(2, 8, 2, 0);
        Kit.makeFile(x, "F");
        Kit.makeDirectory(x, "D");
        for (int n : new int[] {-1, 400001, 400002, Integer.MIN_VALUE, Integer.MAX_VALUE}) {
            Kit.throwsDue("grow by " + n, () -> x.grow(0, n, 0), Kit.ARGUMENT);
            Kit.throwsDue("grow nothing by " + n, () -> x.grow(2, n, 0), Kit.INDEX);
        }
        Kit.due("size", x.about(0, 5), 0);
        Kit.due("400000", x.grow(0, 400000, 0), 400000);
        Kit.due("0", x.grow(0, 0, 0), 400000);
    }

    private static void noRoom() {
        Run x = made();
        Kit.throwsDue("far too much", () -> x.grow(0, 400000, 0), Kit.ROOM);
        Kit.throwsDue("a byte too much", () -> x.grow(0, 121 * 1024 + 1, 0), Kit.ROOM);
        Kit.due("free", x.free(), 121);
        Kit.due("size", x.about(0, 5), 0);
        Kit.due("all but a cluster", x.grow(0, 120 * 1024, 0), 120 * 1024);
        int[] kept = Kit.image(x, 16);
        Run write = x.fork();
        Kit.tape(write, new byte[1025]);
        Kit.throwsDue("a byte too much on the tape", () -> write.write(0), Kit.ROOM);
        Kit.holds("nothing is changed", Arrays.equals(kept, Kit.image(write, 16)));
        Kit.due("free", write.free(), 1);
        Kit.tape(write, new byte[1024]);
        Kit.due("all there is", write.write(0), 121 * 1024);
        Kit.tape(write, "y");
        Kit.throwsDue("a byte more", () -> write.write(0), Kit.ROOM);
        Kit.due("nothing more", write.write(0), 121 * 1024);
        Kit.due("nothing more", write.grow(0, 0, 0), 121 * 1024);
        Kit.throwsDue("a byte more", () -> write.grow(0, 1, 0), Kit.ROOM);
        Kit.sound(write);
        // no cluster is free, but the last one has room
        x.cut(0, 120 * 1024 - 3);
        Kit.makeFile(x, "G");
        x.grow(2, 1024, 0);
        Kit.due("free", x.free(), 0);
        Kit.due("three bytes", Kit.writeText(x, 0, "abc"), 120 * 1024);
        Kit.throwsDue("one more", () -> x.grow(0, 1, 0), Kit.ROOM);
        Kit.sound(x);
    }

    private static void kept() {
        Run x = made();
        x.grow(0, 5000, 3);
        x.cut(0, 4097);
        Kit.due("size", x.about(0, 5), 4097);
        Kit.due("the last byte", x.content(0, 4096), wanted(3, 4096));
        Kit.due("none behind it", x.content(0, 4097), TableVolumes.NONE);
        Kit.due("no sentence changes what was cut", x.byteAt(14 + 8, 1), wanted(3, 4097));
        x.cut(0, 1);
        Kit.due("the first byte", x.content(0, 0), 3);
        Kit.due("no second", x.content(0, 1), TableVolumes.NONE);
        // what comes behind it takes the place of what was cut
        x.grow(0, 20, 7);
        for (int i = 0; i < 20; i++) {
            Kit.due("byte " + i, x.content(0, i + 1), wanted(7, i));
        }
        x.cut(0, 0);
        Kit.due("nothing", x.content(0, 0), TableVolumes.NONE);
        Kit.due("first cluster", Kit.number(x, ROOT, 26, 2), 0);
        Kit.due("size", Kit.number(x, ROOT, 28, 4), 0);
        Kit.sound(x);
    }

    private static void freed() {
        Run x = made();
        Kit.due("an empty file", x.cut(0, 0), 0);
        x.grow(0, 5000, 3);
        Kit.due("to its size", x.cut(0, 5000), 0);
        Kit.due("within its last cluster", x.cut(0, 4097), 0);
        Kit.due("the last cluster", x.cut(0, 4096), 1);
        Kit.due("none", x.cut(0, 4095), 0);
        Kit.due("none", x.cut(0, 3073), 0);
        Kit.due("three", x.cut(0, 1), 3);
        Kit.due("free", x.free(), 120);
        Kit.due("the end", Kit.number(x, 9, 16, 4), END);
        Kit.sound(x);
        Kit.due("the only one", x.cut(0, 0), 1);
        Kit.due("free", x.free(), 121);
        Kit.due("none", x.cut(0, 0), 0);
        Kit.sound(x);
        Run all = made();
        all.grow(0, 121 * 1024, 3);
        Kit.due("all but one", all.fork().cut(0, 1024), 120);
        Kit.due("all", all.cut(0, 0), 121);
        Kit.due("free", all.free(), 121);
        Kit.sound(all);
        // an entry in both halves of which its first cluster stood
        Kit.due("first cluster", Kit.number(all, ROOT, 20, 2) + Kit.number(all, ROOT, 26, 2), 0);
    }

    private static void tablesStay() {
        Run x = made();
        x.grow(0, 3000, 3);
        for (int table = 8; table <= 9; table++) {
            x.poke(table, 4 * 4 + 3, 0x10);
            x.poke(table, 4 * 5 + 3, 0x20);
            x.poke(table, 4 * 6, 0xF8);
            x.poke(table, 4 * 6 + 3, 0x3F);
        }
        Kit.due("sound", x.fault(), 0);
        for (int size : new int[] {3000, 2999, 2049}) {
            Kit.due("none", x.cut(0, size), 0);
            for (int table = 8; table <= 9; table++) {
                Kit.due("its end is as it was", Kit.number(x, table, 24, 4), 0x3FFFFFF8L);
            }
        }
        Kit.due("two", x.cut(0, 1024), 2);
        for (int table = 8; table <= 9; table++) {
            Kit.due("the new end", Kit.number(x, table, 16, 4), 0x1FFFFFFFL);
            Kit.due("free", Kit.number(x, table, 20, 4), 0x20000000L);
            Kit.due("free", Kit.number(x, table, 24, 4), 0x30000000L);
        }
        Kit.sound(x);
    }

    private static void cutRefused() {
        Run x = made();
        Kit.throwsDue("more than nothing", () -> x.cut(0, 1), Kit.ARGUMENT);
        x.grow(0, 3000, 3);
        for (int size : new int[] {-1, 3001, 3072, Integer.MIN_VALUE, Integer.MAX_VALUE}) {
            Kit.throwsDue("cut to " + size, () -> x.cut(0, size), Kit.ARGUMENT);
            Kit.throwsDue("cut nothing to " + size, () -> x.cut(2, size), Kit.INDEX);
        }
        Kit.throwsDue("cut a directory", () -> x.cut(1, 0), Kit.ARGUMENT);
        Kit.due("size", x.about(0, 5), 3000);
        Kit.due("free", x.free(), 118);
        Kit.due("its size", x.cut(0, 3000), 0);
        Kit.due("0", x.cut(0, 0), 3);
    }

    /** What stands beside the bytes that change. */
    private static void neighbours() {
        Run x = made();
        x.stamp(0, 0, 0x7D9F, 0x5DBD);
        x.stamp(0, 1, 0xFF9F, 0);
        x.stamp(0, 2, 0x7D9F, 0x5DBD);
        x.stamp(0, 3, 0, 77);
        x.poke(ROOT, 12, 0xAB);
        String before = Kit.text(x, ROOT, 0, 26);
        x.grow(0, 1024, 5);
        Kit.due("an entry that gets its first cluster", Kit.text(x, ROOT, 0, 26), before);
        Kit.due("first cluster", Kit.number(x, ROOT, 26, 2), 4);
        String full = Kit.text(x, 14, 0, 1024);
        Kit.makeDirectory(x, "E");
        Kit.makeFile(x, "G");
        x.grow(3, 3000, 1);
        Kit.due("a full cluster before those that are taken", Kit.text(x, 14, 0, 1024), full);
        x.cut(0, 0);
        Kit.due("an entry that loses it", Kit.text(x, ROOT, 0, 26), before);
        Kit.due("no cluster and no size", Kit.number(x, ROOT, 26, 6), 0);
        Kit.due("the next entry", Kit.text(x, ROOT, 32, 11), "D          ");
        Kit.sound(x);
    }

    private FileTest() {
    }
}
