import java.util.Arrays;

/** Promises 17 write, 18 grow, 19 cut. */
public final class FileTest {
    private static final int ROOT = 10;

    public static void main(String[] args) {
        write();
        writeChains();
        grow();
        growRefused();
        cut();
        cutTables();
        cutRefused();
        neighbours();
        Kit.end();
    }

    private static TableVolumes made() {
        TableVolumes x = new TableVolumes(256);
        x.format(2, 8, 2, 0);
        Kit.makeFile(x, "F");
        Kit.makeDirectory(x, "D");
        return x;
    }

    private static void sound(TableVolumes x) {
        x.poke(7, 0, 0);
        Kit.due("fault", x.fault(), 0);
    }

    private static void write() {
        TableVolumes x = made();
        Kit.due("nothing", x.write(0), 0);
        Kit.due("first cluster", Kit.number(x, ROOT, 26, 2), 0);
        Kit.due("five", Kit.writeText(x, 0, "first"), 5);
        Kit.due("six more", Kit.writeText(x, 0, "second"), 11);
        Kit.due("nothing more", x.write(0), 11);
        StringBuilder text = new StringBuilder();
        for (int i = 0; i < 11; i++) {
            text.append((char) x.content(0, i));
        }
        Kit.due("text", text.toString(), "firstsecond");
        Kit.due("size", Kit.number(x, ROOT, 28, 4), 11);
        Kit.due("first cluster", Kit.number(x, ROOT, 26, 2), 4);
        Kit.due("the rest of the cluster", x.byteAt(14, 11), 0);
        Kit.throwsDue("write to a directory", () -> x.write(1), Kit.ARGUMENT);
        Kit.throwsDue("write to nothing", () -> x.write(2), Kit.INDEX);
        x.stamp(0, 4, 0, 1);
        Kit.due("READ ONLY forbids nothing", Kit.writeText(x, 0, "!"), 12);
        Kit.due("days stay", Kit.number(x, ROOT, 24, 2), 33);
        sound(x);
    }

    private static void writeChains() {
        TableVolumes x = made();
        byte[] bytes = new byte[4096];
        for (int i = 0; i < bytes.length; i++) {
            bytes[i] = (byte) (i * 7 + i / 256);
        }
        Kit.tape(x, bytes);
        Kit.due("4096", x.write(0), 4096);
        Kit.due("four clusters", x.free(), 117);
        for (int i = 0; i < 4096; i++) {
            Kit.due("byte " + i, x.content(0, i), bytes[i] & 255);
        }
        for (int c = 4; c <= 7; c++) {
            for (int table = 8; table <= 9; table++) {
                Kit.due("entry " + c, Kit.number(x, table, 4 * c, 4), c == 7 ? 268435455 : c + 1);
            }
        }
        // a full cluster: one byte more takes another, and the lowest
        Kit.makeFile(x, "G");
        Kit.writeText(x, 2, "g");
        Kit.due("cluster of G", Kit.number(x, ROOT, 64 + 26, 2), 8);
        x.remove(1);
        Kit.due("one more", Kit.writeText(x, 0, "x"), 4097);
        Kit.due("the lowest free", Kit.number(x, 8, 28, 4), 3);
        Kit.due("the end", Kit.number(x, 8, 12, 4), 268435455);
        Kit.due("filled with 0", Kit.text(x, 12, 0, 12), "x" + "\0".repeat(11));
        sound(x);
        // no room: nothing is changed
        x.grow(0, 116 * 1024 - 1, 0);
        Kit.due("free", x.free(), 1);
        int[] kept = Kit.image(x, 256);
        Kit.tape(x, Arrays.copyOf(bytes, 1025));
        Kit.throwsDue("no room for two clusters", () -> x.write(0), Kit.ROOM);
        Kit.holds("nothing is changed", Arrays.equals(kept, Kit.image(x, 256)));
        Kit.tape(x, Arrays.copyOf(bytes, 1024));
        Kit.due("room for one", x.write(0), 121 * 1024);
        Kit.tape(x, "y");
        Kit.throwsDue("no room for a byte", () -> x.write(0), Kit.ROOM);
        Kit.due("room for nothing", x.write(0), 121 * 1024);
        Kit.due("room in G's cluster", Kit.writeText(x, 1, "h"), 2);
        sound(x);
    }

    private static void grow() {
        TableVolumes x = new TableVolumes(1024);
        x.format(2, 8, 2, 0);
        Kit.makeFile(x, "F");
        Kit.due("nothing", x.grow(0, 0, 5), 0);
        Kit.due("free", x.free(), 503);
        Kit.due("one", x.grow(0, 1, 300), 1);
        Kit.due("seed's lowest eight bits", x.content(0, 0), 44);
        Kit.due("1500 more", x.grow(0, 1500, -1), 1501);
        for (int i = 0; i < 1500; i++) {
            Kit.due("byte " + i, x.content(0, i + 1), (int) ((-1L + (long) i * i + i / 256) & 255));
        }
        Kit.due("the most", x.grow(0, 400000, Integer.MAX_VALUE), 401501);
        for (int i = 0; i < 400000; i += 997) {
            Kit.due("byte " + i, x.content(0, i + 1501), (int) ((Integer.MAX_VALUE + (long) i * i + i / 256) & 255));
        }
        int last = 399999;
        Kit.due("last byte", x.content(0, 401500), (int) ((Integer.MAX_VALUE + (long) last * last + last / 256) & 255));
        Kit.due("clusters", x.free(), 503 - 393);
        Kit.due("READ ONLY and days", x.about(0, 4), 315532800L);
        sound(x);
        // a cut leaves what stood in the last cluster, which growing puts other bytes on
        x.cut(0, 10);
        x.grow(0, 20, 7);
        for (int i = 0; i < 20; i++) {
            Kit.due("byte " + i, x.content(0, i + 10), 7 + i * i & 255);
        }
    }

    private static void growRefused() {
        TableVolumes x = made();
        for (int n : new int[] {-1, 400001, Integer.MIN_VALUE, Integer.MAX_VALUE}) {
            Kit.throwsDue("grow by " + n, () -> x.grow(0, n, 0), Kit.ARGUMENT);
            Kit.throwsDue("grow nothing by " + n, () -> x.grow(2, n, 0), Kit.INDEX);
        }
        Kit.throwsDue("grow a directory", () -> x.grow(1, 0, 0), Kit.ARGUMENT);
        Kit.throwsDue("grow nothing", () -> x.grow(-1, 0, 0), Kit.INDEX);
        Kit.throwsDue("no room", () -> x.grow(0, 400000, 0), Kit.ROOM);
        Kit.throwsDue("no room by a byte", () -> x.grow(0, 121 * 1024 + 1, 0), Kit.ROOM);
        Kit.due("free", x.free(), 121);
        Kit.due("size", x.about(0, 5), 0);
        Kit.due("all there is", x.grow(0, 121 * 1024, 0), 121 * 1024);
        Kit.due("nothing more", x.grow(0, 0, 0), 121 * 1024);
        Kit.throwsDue("a byte more", () -> x.grow(0, 1, 0), Kit.ROOM);
        sound(x);
    }

    private static void cut() {
        TableVolumes x = made();
        Kit.due("an empty file", x.cut(0, 0), 0);
        x.grow(0, 5000, 3);
        Kit.due("to its size", x.cut(0, 5000), 0);
        Kit.due("within its last cluster", x.cut(0, 4097), 0);
        Kit.due("size", x.about(0, 5), 4097);
        Kit.due("what was cut stands there still", x.byteAt(14 + 8, 1), 3 + 4097 * 4097 + 16 & 255);
        Kit.due("but is not of the file", x.content(0, 4097), TableVolumes.NONE);
        Kit.due("a cluster", x.cut(0, 4096), 1);
        Kit.due("none", x.cut(0, 4095), 0);
        Kit.due("three", x.cut(0, 1), 3);
        Kit.due("free", x.free(), 120);
        Kit.due("first byte", x.content(0, 0), 3);
        sound(x);
        Kit.due("the last", x.cut(0, 0), 1);
        Kit.due("free", x.free(), 121);
        Kit.due("first cluster", Kit.number(x, ROOT, 26, 2), 0);
        Kit.due("size", Kit.number(x, ROOT, 28, 4), 0);
        sound(x);
    }

    private static void cutTables() {
        TableVolumes x = made();
        x.grow(0, 3000, 3);
        for (int table = 8; table <= 9; table++) {
            x.poke(table, 4 * 4 + 3, 0x10);
            x.poke(table, 4 * 5 + 3, 0x20);
            x.poke(table, 4 * 6, 0xF8);
            x.poke(table, 4 * 6 + 3, 0x3F);
        }
        Kit.due("sound", x.fault(), 0);
        x.cut(0, 2999);
        Kit.due("the tables stay as they are", Kit.number(x, 8, 24, 4), 0x3FFFFFF8L);
        Kit.due("two go", x.cut(0, 1024), 2);
        for (int table = 8; table <= 9; table++) {
            Kit.due("the new end", Kit.number(x, table, 16, 4), 0x1FFFFFFFL);
            Kit.due("free", Kit.number(x, table, 20, 4), 0x20000000L);
            Kit.due("free", Kit.number(x, table, 24, 4), 0x30000000L);
        }
        sound(x);
        x.grow(0, 1024, 1);
        Kit.due("highest four bits stay", Kit.number(x, 8, 16, 4), 0x10000005L);
        Kit.due("highest four bits stay", Kit.number(x, 9, 20, 4), 0x2FFFFFFFL);
        sound(x);
    }

    private static void cutRefused() {
        TableVolumes x = made();
        x.grow(0, 3000, 3);
        for (int size : new int[] {-1, 3001, Integer.MIN_VALUE, Integer.MAX_VALUE}) {
            Kit.throwsDue("cut to " + size, () -> x.cut(0, size), Kit.ARGUMENT);
            Kit.throwsDue("cut nothing to " + size, () -> x.cut(2, size), Kit.INDEX);
        }
        Kit.throwsDue("cut a directory", () -> x.cut(1, 0), Kit.ARGUMENT);
        Kit.due("size", x.about(0, 5), 3000);
        Kit.due("free", x.free(), 118);
    }

    /** What stands beside the bytes that change. */
    private static void neighbours() {
        TableVolumes x = made();
        x.stamp(0, 0, 0x7D9F, 0x5DBD);
        x.stamp(0, 1, 0xFF9F, 0);
        x.stamp(0, 2, 0x7D9F, 0x5DBD);
        x.stamp(0, 3, 0, 77);
        x.poke(ROOT, 12, 0xAB);
        String before = Kit.text(x, ROOT, 0, 26);
        x.grow(0, 1024, 5);
        Kit.due("an entry that gets its first cluster", Kit.text(x, ROOT, 0, 26), before);
        Kit.due("first cluster", Kit.number(x, ROOT, 26, 2), 4);
        String full = Kit.text(x, 14, 0, 1024);
        Kit.makeDirectory(x, "E");
        Kit.makeFile(x, "G");
        x.grow(3, 3000, 1);
        Kit.due("a full cluster before those that are taken", Kit.text(x, 14, 0, 1024), full);
        x.cut(0, 0);
        Kit.due("an entry that loses it", Kit.text(x, ROOT, 0, 26), before);
        Kit.due("no cluster and no size", Kit.number(x, ROOT, 26, 6), 0);
        Kit.due("the next entry", Kit.text(x, ROOT, 32, 11), "D          ");
        sound(x);
    }

    private FileTest() {
    }
}
