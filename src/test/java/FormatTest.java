import java.util.Arrays;

/** Promise 5 format. */
public final class FormatTest {
    public static void main(String[] args) {
        Kit.says("All sectors become 0, then a sound table volume is made, with nothing in its root, cluster 2", FormatTest::everyByte);
        Kit.says("how many clusters", FormatTest::clusters);
        Kit.says("Its label's short name is the tape's bytes (none: no label) with blanks behind them, slot 0 of the root",
                FormatTest::labels);
        Kit.says("at 11 (1) 8, WRITTEN 1 January 1980, 0:00, else 0.", FormatTest::labelBytes);
        Kit.says("at 67 (4) id", FormatTest::ids);
        Kit.says("sector 6 is as sector 0", FormatTest::sectorSix);
        Kit.says("Z is the least that does.", FormatTest::leastTable);
        Kit.says("there is none such with these numbers", FormatTest::wrongNumbers);
        Kit.says("or the tape has no label", FormatTest::wrongLabels);
        Kit.says("What throws changes nothing but the tape", FormatTest::nothingChanged);
        Kit.says("the directory HERE, which is the root at first, and behind each format and poke (that did not throw or answer "
                + "false)", FormatTest::here);
        Kit.end();
    }

    private static void put(byte[] disk, int sector, int at, int n, int value) {
        for (int i = 0; i < n; i++) {
            disk[sector * 512 + at + i] = (byte) (value >> (8 * i));
        }
    }

    private static byte[] wanted() {
        byte[] want = new byte[300 * 512];
        for (int base = 0; base <= 6; base += 6) {
            for (int i = 3; i < 11; i++) {
                put(want, base, i, 1, 32);
            }
            put(want, base, 11, 2, 512);
            put(want, base, 13, 1, 2);
            put(want, base, 14, 2, 9);
            put(want, base, 16, 1, 2);
            put(want, base, 32, 4, 300);
            put(want, base, 36, 4, 2);
            put(want, base, 44, 4, 2);
            put(want, base, 48, 2, 1);
            put(want, base, 50, 2, 6);
            put(want, base, 67, 4, 0x89ABCDEF);
            put(want, base, 510, 2, 43605);
        }
        put(want, 1, 0, 4, 1096897106);
        put(want, 1, 484, 4, 1631679090);
        put(want, 1, 488, 4, 0xFFFFFFFF);
        put(want, 1, 492, 4, 0xFFFFFFFF);
        put(want, 1, 508, 4, (int) 2857697280L);
        for (int table = 9; table <= 11; table += 2) {
            put(want, table, 0, 4, 268435448);
            put(want, table, 4, 4, 268435455);
            put(want, table, 8, 4, 268435455);
        }
        String label = "DEMO  1    ";
        for (int i = 0; i < 11; i++) {
            put(want, 13, i, 1, label.charAt(i));
        }
        put(want, 13, 11, 1, 8);
        put(want, 13, 24, 2, 33);
        return want;
    }

    private static void everyByte() {
        Run x = new Run(300);
        for (int s = 0; s < 300; s++) {
            x.poke(s, s, 99);
        }
        Kit.tape(x, "DEMO  1");
        Kit.due("clusters", x.format(2, 9, 2, 0x89ABCDEF), 143);
        byte[] want = wanted();
        for (int i = 0; i < 15 * 512; i++) {
            Kit.due("byte " + i % 512 + " of sector " + i / 512, x.byteAt(i / 512, i % 512), want[i] & 255);
        }
        Kit.due("fault", x.fault(), 0);
        Kit.due("items", x.items(), 0);
        // without a sector 0 that is as told, free clusters are shown
        x.poke(0, 510, 0);
        for (int i = 15 * 512; i < 300 * 512; i++) {
            Kit.due("byte " + i % 512 + " of sector " + i / 512, x.byteAt(i / 512, i % 512), 0);
        }
        // a volume that was there is gone, with one table less and other sectors before it
        Run y = new Run(256);
        y.format(2, 8, 2, 1);
        Kit.makeDirectory(y, "D");
        Kit.makeFile(y, "F");
        y.grow(1, 5000, 1);
        y.format(4, 20, 1, 2);
        Kit.due("fault", y.fault(), 0);
        Kit.due("items", y.items(), 0);
        y.poke(0, 510, 0);
        for (int sector = 7; sector < 256; sector++) {
            for (int at : new int[] {0, 1, 8, 32, 100, 511}) {
                int due = sector == 20 && at < 12 ? at == 0 ? 248 : 255 : 0;
                Kit.due("byte " + at + " of sector " + sector, y.byteAt(sector, at), due);
            }
        }
    }

    private static void clusters() {
        int[][] cases = {{256, 2, 8, 1, 123}, {256, 2, 8, 2, 123}, {256, 2, 64, 2, 95}, {256, 4, 8, 1, 61}, {256, 8, 8, 1, 30},
            {256, 8, 64, 1, 23}, {256, 8, 64, 2, 23}, {1024, 2, 8, 1, 506}, {1024, 2, 8, 2, 504}, {1024, 8, 64, 2, 119},
            {1024, 4, 8, 2, 253}, {1024, 8, 8, 1, 126}, {258, 2, 8, 1, 124}};
        for (int[] c : cases) {
            Run x = new Run(c[0]);
            String what = c[0] + " " + c[1] + " " + c[2] + " " + c[3];
            Kit.due("clusters of " + what, x.format(c[1], c[2], c[3], 0), c[4]);
            Kit.due("fault", x.fault(), 0);
            Kit.due("free", x.free(), c[4] - 1);
            Kit.due("C", x.byteAt(0, 13), c[1]);
            Kit.due("V", Kit.number(x, 0, 14, 2), c[2]);
            Kit.due("Y", x.byteAt(0, 16), c[3]);
        }
    }

    private static void labels() {
        String[] good = {"A", "AB", "ELEVEN BYTE", "TEN BYTES!", "A B", "A          ", "A         B", "!#$%&'()-@^", "_`{}~0189AZ",
            "X  Y  Z", "0"};
        for (String label : good) {
            Run x = new Run(256);
            Kit.tape(x, label);
            x.format(2, 8, 2, 0);
            Kit.due("fault of " + label, x.fault(), 0);
            Kit.due("label", Kit.text(x, 10, 0, 11), (label + "          ").substring(0, 11));
            Kit.due("items of " + label, x.items(), 0);
            Kit.due("slot 1", x.byteAt(10, 32), 0);
        }
        Run none = new Run(256);
        none.format(2, 8, 2, 0);
        for (int i = 0; i < 1024; i++) {
            Kit.due("no label", none.byteAt(10 + i / 512, i % 512), 0);
        }
    }

    private static void labelBytes() {
        Run x = new Run(256);
        Kit.tape(x, "L");
        x.format(2, 8, 2, 0);
        for (int i = 11; i < 64; i++) {
            Kit.due("byte " + i, x.byteAt(10, i), i == 11 ? 8 : i == 24 ? 33 : 0);
        }
    }

    private static void ids() {
        for (int id : new int[] {0, 1, -1, 0x01020304, 0x80000000, Integer.MAX_VALUE}) {
            Run x = new Run(256);
            x.format(2, 8, 2, id);
            Kit.due("id", Kit.number(x, 0, 67, 4), id & 0xFFFFFFFFL);
            Kit.due("beside it", x.byteAt(0, 66) + x.byteAt(0, 71), 0);
            Kit.due("fault", x.fault(), 0);
        }
    }

    private static void sectorSix() {
        Run x = new Run(400);
        x.format(4, 33, 1, -559038737);
        for (int i = 0; i < 512; i++) {
            Kit.due("byte " + i, x.byteAt(6, i), x.byteAt(0, i));
        }
    }

    private static void leastTable() {
        // sectors, C, V, Y, then Z: where one more sector of the disk, or one less before the tables, wants one more
        int[][] cases = {{256, 2, 8, 1, 1}, {264, 2, 10, 1, 1}, {264, 2, 9, 1, 2}, {262, 2, 8, 1, 1}, {264, 2, 8, 1, 2},
            {1024, 2, 8, 1, 4}, {1024, 2, 8, 2, 4}, {1024, 8, 8, 1, 1}, {1024, 8, 8, 2, 1}, {1024, 4, 8, 1, 2}, {1024, 4, 8, 2, 2},
            {776, 2, 9, 1, 3}, {1024, 8, 64, 2, 1}, {264, 2, 9, 2, 1}, {264, 2, 8, 2, 2}, {520, 4, 8, 1, 2}, {1022, 8, 9, 1, 1}};
        for (int[] c : cases) {
            Run x = new Run(c[0]);
            x.format(c[1], c[2], c[3], 0);
            int z = c[4];
            Kit.due("Z of " + c[0] + " " + c[1] + " " + c[2] + " " + c[3], Kit.number(x, 0, 36, 4), z);
            Kit.holds("it does", 128 * z >= (c[0] - c[2] - c[3] * z) / c[1] + 2);
            Kit.holds("one less does not", z == 1 || 128 * (z - 1) < (c[0] - c[2] - c[3] * (z - 1)) / c[1] + 2);
            Kit.due("fault", x.fault(), 0);
        }
    }

    private static void wrongNumbers() {
        int[][] bad = {{1, 8, 1}, {3, 8, 1}, {0, 8, 1}, {5, 8, 1}, {6, 8, 1}, {7, 8, 1}, {9, 8, 1}, {16, 8, 1}, {-2, 8, 1}, {258, 8, 1},
            {Integer.MIN_VALUE, 8, 1}, {Integer.MAX_VALUE, 8, 1}, {2, 7, 1}, {2, 65, 1}, {2, 0, 1}, {2, -8, 1}, {2, 256 + 8, 1},
            {2, 65536 + 8, 1}, {2, Integer.MIN_VALUE, 1}, {2, Integer.MAX_VALUE, 2}, {2, 8, 0}, {2, 8, 3}, {2, 8, -1}, {2, 8, 257},
            {2, 8, Integer.MAX_VALUE}, {2, 8, Integer.MIN_VALUE}, {2, Integer.MIN_VALUE, Integer.MIN_VALUE}};
        for (int[] c : bad) {
            Run x = new Run(256);
            Kit.throwsDue("format(" + c[0] + ", " + c[1] + ", " + c[2] + ", 0)", () -> x.format(c[0], c[1], c[2], 0), Kit.ARGUMENT);
            Kit.due("no volume is there", x.fault(), 1);
        }
        int[][] good = {{2, 8, 1}, {2, 64, 2}, {4, 8, 2}, {4, 64, 1}, {8, 8, 1}, {8, 64, 2}, {8, 9, 2}, {8, 63, 1}};
        for (int n : new int[] {256, 1024}) {
            for (int[] c : good) {
                Run x = new Run(n);
                x.format(c[0], c[1], c[2], 0);
                Kit.due("fault", x.fault(), 0);
            }
        }
    }

    private static void wrongLabels() {
        String[] bad = {" A", " ", "           ", "a", "Aa", "TWELVE BYTES", "A           ", "A.B", ".", "A+B", "A,B", "A;B", "A=B", "A[", "A]",
            "A\0", "\0", "\u00e9", "A/B", "A\"", "A*", "A:", "A<", "A>", "A?", "A\\", "A|", "\u007f", "\u0005A", "\u00e5", "A\u0080",
            "ABCDEFGHIJk", "X".repeat(20), "X".repeat(300)};
        for (String label : bad) {
            Run x = new Run(256);
            Kit.tape(x, label);
            Kit.throwsDue("format with label " + label, () -> x.format(2, 8, 2, 0), Kit.ARGUMENT);
            Kit.due("what was refused is used up", x.format(2, 8, 2, 0), 123);
            Kit.due("no label then", x.byteAt(10, 0), 0);
        }
    }

    private static void nothingChanged() {
        Run x = new Run(256);
        x.format(4, 8, 2, 5);
        Kit.makeDirectory(x, "D");
        x.enter(0);
        Kit.makeFile(x, "INSIDE");
        int[] kept = Kit.image(x, 256);
        Kit.throwsDue("format", () -> x.format(3, 8, 2, 0), Kit.ARGUMENT);
        Kit.tape(x, "no");
        Kit.throwsDue("format without a label", () -> x.format(2, 8, 2, 0), Kit.ARGUMENT);
        Kit.holds("nothing is changed", Arrays.equals(kept, Kit.image(x, 256)));
        Kit.due("HERE is as before", Kit.nameOf(x, 0), "INSIDE");
    }

    private static void here() {
        Run x = new Run(256);
        x.format(2, 8, 2, 5);
        Kit.holds("the root at first", !x.up());
        Kit.makeDirectory(x, "D");
        x.enter(0);
        Run formatted = x.fork();
        formatted.format(2, 8, 2, 5);
        Kit.holds("the root behind a format", !formatted.up());
        Kit.due("with nothing", formatted.items(), 0);
        Run poked = x.fork();
        poked.poke(255, 0, 0);
        Kit.due("the root behind a poke", poked.items(), 1);
        Kit.holds("the root behind a poke", !poked.up());
        Run same = x.fork();
        same.poke(0, 13, 2);
        Kit.holds("also if the byte was the same", !same.up());
        Run refused = x.fork();
        Kit.throwsDue("format", () -> refused.format(2, 8, 3, 5), Kit.ARGUMENT);
        Kit.holds("not behind one that throws", refused.up());
        Run no = x.fork();
        no.poke(256, 0, 0);
        Kit.holds("not behind one that answers false", no.up());
    }

    private FormatTest() {
    }
}
