/** Promise 5 format. */
public final class FormatTest {
    public static void main(String[] args) {
        everyByte();
        sizes();
        labels();
        refused();
        Kit.end();
    }

    private static void everyByte() {
        TableVolumes x = new TableVolumes(300);
        for (int s = 0; s < 300; s++) {
            x.poke(s, s, 99);
        }
        Kit.tape(x, "DEMO  1");
        Kit.due("clusters", x.format(2, 9, 2, 0x89ABCDEF), 143);
        byte[] want = new byte[300 * 512];
        for (int base = 0; base <= 6; base += 6) {
            for (int i = 3; i < 11; i++) {
                put(want, base, i, 1, 32);
            }
            put(want, base, 11, 2, 512);
            put(want, base, 13, 1, 2);
            put(want, base, 14, 2, 9);
            put(want, base, 16, 1, 2);
            put(want, base, 32, 4, 300);
            put(want, base, 36, 4, 2);
            put(want, base, 44, 4, 2);
            put(want, base, 48, 2, 1);
            put(want, base, 50, 2, 6);
            put(want, base, 67, 4, 0x89ABCDEF);
            put(want, base, 510, 2, 43605);
        }
        put(want, 1, 0, 4, 1096897106);
        put(want, 1, 484, 4, 1631679090);
        put(want, 1, 488, 4, 0xFFFFFFFF);
        put(want, 1, 492, 4, 0xFFFFFFFF);
        put(want, 1, 508, 4, (int) 2857697280L);
        for (int table = 9; table <= 11; table += 2) {
            put(want, table, 0, 4, 268435448);
            put(want, table, 4, 4, 268435455);
            put(want, table, 8, 4, 268435455);
        }
        String label = "DEMO  1    ";
        for (int i = 0; i < 11; i++) {
            put(want, 13, i, 1, label.charAt(i));
        }
        put(want, 13, 11, 1, 8);
        put(want, 13, 24, 2, 33);
        // byteAt shows no free clusters, so sector 0 is spoilt behind the others
        for (int i = 512; i < 15 * 512; i++) {
            Kit.due("byte " + i % 512 + " of sector " + i / 512, x.byteAt(i / 512, i % 512), want[i] & 255);
        }
        for (int i = 0; i < 512; i++) {
            Kit.due("byte " + i + " of sector 0", x.byteAt(0, i), want[i] & 255);
        }
        Kit.due("fault", x.fault(), 0);
        Kit.due("items", x.items(), 0);
        x.poke(0, 510, 0);
        for (int i = 15 * 512; i < want.length; i++) {
            Kit.due("byte " + i % 512 + " of sector " + i / 512, x.byteAt(i / 512, i % 512), 0);
        }
    }

    private static void put(byte[] disk, int sector, int at, int n, int value) {
        for (int i = 0; i < n; i++) {
            disk[sector * 512 + at + i] = (byte) (value >> 8 * i);
        }
    }

    private static void sizes() {
        // sectors, cluster, before, tables; Z, clusters
        int[][] cases = {
            {1024, 2, 8, 1, 4, 506}, {1024, 2, 8, 2, 4, 504}, {1024, 2, 64, 2, 4, 476}, {1024, 4, 8, 2, 2, 253},
            {1024, 4, 10, 1, 2, 253}, {1024, 8, 64, 2, 1, 119}, {1024, 8, 8, 1, 1, 126}, {256, 8, 64, 2, 1, 23},
            {256, 2, 64, 1, 1, 95}, {262, 2, 8, 1, 1, 126}, {264, 2, 8, 1, 2, 127}, {264, 2, 9, 2, 1, 126},
            {264, 2, 10, 2, 1, 126}, {264, 2, 8, 2, 2, 126}, {1022, 8, 9, 1, 1, 126}, {520, 4, 8, 1, 2, 127}
        };
        for (int[] c : cases) {
            String what = c[0] + " sectors, format(" + c[1] + ", " + c[2] + ", " + c[3] + ", 1)";
            TableVolumes x = new TableVolumes(c[0]);
            Kit.due(what, x.format(c[1], c[2], c[3], 1), c[5]);
            Kit.due(what + " Z", Kit.number(x, 0, 36, 4), c[4]);
            Kit.due(what + " fault", x.fault(), 0);
            Kit.due(what + " free", x.free(), c[5] - 1);
        }
    }

    private static void labels() {
        TableVolumes x = new TableVolumes(256);
        String[] good = {"A", "ELEVEN BYTE", "A B", "A          ", "!#$%&'()-@^", "_`{}~0189AZ", "X  Y  Z"};
        for (String label : good) {
            Kit.tape(x, label);
            x.format(2, 8, 2, 0);
            Kit.due("fault of " + label, x.fault(), 0);
            Kit.due("label", Kit.text(x, 10, 0, 11), (label + "           ").substring(0, 11));
            Kit.due("bits of " + label, x.byteAt(10, 11), 8);
            Kit.due("items of " + label, x.items(), 0);
        }
        x.format(2, 8, 2, 0);
        for (int i = 0; i < 512; i++) {
            Kit.due("no label", x.byteAt(10, i), 0);
        }
        String[] bad = {" A", "a", "TWELVE BYTES", "A.B", "A+B", "A,B", "A\0", "\0", "\u00e9", "A/B", "A\"", "A*", "\u007f",
            "            ", " ", "A           ", "\u0005A", "\u00e5"};
        for (String label : bad) {
            Kit.tape(x, label);
            Kit.throwsDue("format with label " + label, () -> x.format(2, 8, 2, 0), Kit.ARGUMENT);
            Kit.due("what was refused is used up", x.format(2, 8, 2, 0), 123);
            Kit.due("no label then", x.byteAt(10, 0), 0);
        }
    }

    private static void refused() {
        int[][] bad = {{1, 8, 1}, {3, 8, 1}, {0, 8, 1}, {16, 8, 1}, {6, 8, 1}, {-2, 8, 1}, {2, 7, 1}, {2, 65, 1}, {2, 0, 1},
            {2, -8, 1}, {2, 8, 0}, {2, 8, 3}, {2, 8, -1}, {Integer.MIN_VALUE, 8, 1}, {2, Integer.MAX_VALUE, 2},
            {2, 8, Integer.MAX_VALUE}, {2, Integer.MIN_VALUE, Integer.MIN_VALUE}, {258, 8, 1}};
        TableVolumes x = new TableVolumes(256);
        x.format(4, 8, 2, 5);
        Kit.makeDirectory(x, "D");
        x.enter(0);
        int[] kept = Kit.image(x, 256);
        for (int[] c : bad) {
            Kit.throwsDue("format(" + c[0] + ", " + c[1] + ", " + c[2] + ", 0)", () -> x.format(c[0], c[1], c[2], 0),
                    Kit.ARGUMENT);
        }
        Kit.tape(x, "no");
        Kit.throwsDue("format without a label", () -> x.format(2, 8, 2, 0), Kit.ARGUMENT);
        Kit.holds("nothing is changed", java.util.Arrays.equals(kept, Kit.image(x, 256)));
        Kit.holds("HERE is as before", x.up());
        x.enter(0);
        x.format(4, 8, 2, 5);
        Kit.holds("HERE is the root", !x.up());
        Kit.due("the directory is gone", x.items(), 0);
    }

    private FormatTest() {
    }
}
