/** Promise 7 fault: each of the six, what is no fault, and which comes first. */
public final class FaultTest {
    /** Sectors of the base volume: tables 8 and 9, the root (cluster 2) 10 and 11, then two for each cluster. */
    private static final int ROOT = 10;

    public static void main(String[] args) {
        sectorZero();
        tables();
        directoryChains();
        entries();
        times();
        shortNames();
        parts();
        longNames();
        points();
        labels();
        twins();
        fileChains();
        lost();
        order();
        Kit.end();
    }

    /** The root has: slot 0 the label, 1 FILE (2000 bytes: clusters 4 and 5), 2 DIR (cluster 3), 3 a part, 4 "a b". */
    private static TableVolumes base() {
        TableVolumes x = new TableVolumes(256);
        Kit.tape(x, "LABEL");
        x.format(2, 8, 2, 1);
        Kit.makeFile(x, "FILE");
        Kit.makeDirectory(x, "DIR");
        Kit.makeFile(x, "a b");
        x.grow(0, 2000, 1);
        x.enter(1);
        Kit.makeDirectory(x, "SUB");
        Kit.makeFile(x, "x y");
        x.up();
        Kit.due("the base volume", x.fault(), 0);
        return x;
    }

    /** Pokes, looks, and pokes back. */
    private static void poked(TableVolumes x, int sector, int at, int value, int want) {
        int old = x.byteAt(sector, at);
        x.poke(sector, at, value);
        Kit.due("fault with " + value + " at " + at + " of sector " + sector, x.fault(), want);
        Kit.due("thrown then", Kit.thrown(x::items), want == 0 ? Kit.NOTHING : Kit.STATE);
        x.poke(sector, at, old);
        Kit.due("fault with " + old + " at " + at + " of sector " + sector, x.fault(), 0);
    }

    /** The same, in both tables. */
    private static void linked(TableVolumes x, int cluster, long value, int want) {
        long old = Kit.number(x, 8, 4 * cluster, 4);
        Kit.poke(x, 8, 4 * cluster, 4, value);
        Kit.poke(x, 9, 4 * cluster, 4, value);
        Kit.due("fault with entry " + cluster + " = " + value, x.fault(), want);
        Kit.poke(x, 8, 4 * cluster, 4, old);
        Kit.poke(x, 9, 4 * cluster, 4, old);
        Kit.due("fault with entry " + cluster + " as before", x.fault(), 0);
    }

    private static void slot(TableVolumes x, int slot, int at, int value, int want) {
        poked(x, ROOT, slot * 32 + at, value, want);
    }

    private static void sectorZero() {
        TableVolumes x = base();
        int[][] wrong = {{11, 1}, {12, 0}, {13, 1}, {13, 0}, {13, 3}, {13, 16}, {14, 7}, {14, 65}, {15, 1}, {16, 0}, {16, 3},
            {17, 1}, {18, 1}, {19, 1}, {20, 1}, {22, 1}, {23, 1}, {32, 1}, {33, 2}, {34, 1}, {35, 128}, {36, 0}, {36, 33},
            {37, 1}, {39, 128}, {44, 0}, {44, 1}, {44, 125}, {45, 1}, {47, 128}, {48, 0}, {49, 1}, {50, 5}, {51, 1},
            {510, 84}, {511, 0}};
        for (int[] w : wrong) {
            poked(x, 0, w[0], w[1], 1);
        }
        int[] free = {0, 1, 2, 3, 10, 21, 24, 31, 40, 43, 52, 64, 67, 70, 71, 509};
        for (int at : free) {
            poked(x, 0, at, 99, 0);
        }
        // as told, so the fault is another one
        poked(x, 0, 13, 4, 3);
        poked(x, 0, 14, 9, 2);
        poked(x, 0, 44, 3, 4);
        poked(x, 0, 44, 124, 3);
        // the sectors 1 and 6, and those before the tables, do not count
        poked(x, 1, 0, 0, 0);
        poked(x, 6, 0, 99, 0);
        poked(x, 6, 510, 0, 0);
        poked(x, 7, 0, 9, 0);
        Kit.due("a new object", new TableVolumes(256).fault(), 1);
        largestTables();
    }

    private static void largestTables() {
        TableVolumes x = new TableVolumes(256);
        x.format(2, 8, 1, 0);
        // with 32 sectors the clusters begin at 40: the root's one is found there
        x.poke(0, 36, 32);
        Kit.due("Z = 32", x.fault(), 0);
        Kit.due("clusters then", x.free(), (256 - 40) / 2 - 1);
        x.poke(0, 36, 33);
        Kit.due("Z = 33", x.fault(), 1);
        TableVolumes y = new TableVolumes(1024);
        y.format(2, 8, 1, 0);
        y.poke(0, 36, 3);
        Kit.due("Z too small", y.fault(), 1);
        y.poke(0, 36, 4);
        Kit.due("Z as it was", y.fault(), 0);
        TableVolumes z = new TableVolumes(264);
        z.format(2, 10, 2, 0);
        z.poke(0, 14, 9);
        z.poke(0, 16, 1);
        Kit.due("127 clusters and 128 entries", z.fault(), 1);
    }

    private static void tables() {
        TableVolumes x = base();
        for (int table = 8; table <= 9; table++) {
            poked(x, table, 0, 249, 2);
            poked(x, table, 4, 254, 2);
            poked(x, table, 4 * 50, 2, 2);
            poked(x, table, 3, 0x1F, 2);
            poked(x, table, 4 * 50 + 3, 0x10, 2);
            poked(x, table, 4 * 124, 5, 2);
        }
        // entry 125 is that of no cluster
        poked(x, 8, 4 * 125, 5, 0);
        poked(x, 9, 4 * 125, 5, 0);
        linked(x, 0, 268435455, 2);
        linked(x, 0, 268435448L + (15L << 28), 0);
        linked(x, 1, 268435448, 2);
        linked(x, 1, 268435455L + (9L << 28), 0);
        linked(x, 3, 1, 2);
        linked(x, 3, 125, 2);
        linked(x, 3, 268435447, 2);
        linked(x, 3, 268435447L + (15L << 28), 2);
        linked(x, 50, 1000, 2);
        for (long end = 268435448; end <= 268435455; end++) {
            linked(x, 3, end, 0);
            linked(x, 5, end + (7L << 28), 0);
        }
        linked(x, 50, 5L << 28, 0);
        linked(x, 50, 268435455, 6);
        linked(x, 124, 124, 6);
    }

    private static void directoryChains() {
        TableVolumes x = base();
        linked(x, 2, 0, 3);
        linked(x, 2, 2, 3);
        linked(x, 2, 50, 3);
        linked(x, 2, 3, 3);
        linked(x, 3, 0, 3);
        linked(x, 3, 2, 3);
        linked(x, 3, 3, 3);
        linked(x, 3, 5, 3);
        linked(x, 6, 4, 3);
        for (int begin : new int[] {0, 1, 2, 4, 5, 50, 125, 200}) {
            slot(x, 2, 26, begin, 3);
        }
        longestChain();
        slot(x, 2, 27, 1, 3);
        slot(x, 2, 20, 1, 3);
        slot(x, 2, 21, 128, 3);
    }

    /** The root may have all clusters; its slots are looked at to the last one. */
    private static void longestChain() {
        TableVolumes x = new TableVolumes(256);
        x.format(2, 8, 2, 0);
        for (int c = 2; c < 124; c++) {
            linkBoth(x, c, c + 1);
        }
        linkBoth(x, 124, 268435455);
        Kit.due("all clusters", x.fault(), 0);
        Kit.due("free", x.free(), 0);
        for (int slot = 0; slot < 123 * 32 - 1; slot++) {
            x.poke(10 + slot / 16, slot % 16 * 32, 229);
        }
        Kit.due("empty slots", x.fault(), 0);
        x.poke(255, 480, 'a');
        Kit.due("the last slot", x.fault(), 4);
        x.poke(255, 480, 229);
        linkBoth(x, 124, 2);
        Kit.due("a ring", x.fault(), 3);
    }

    private static void entries() {
        TableVolumes x = base();
        for (int bits : new int[] {0, 1, 2, 4, 32, 39, 7}) {
            slot(x, 1, 11, bits, 0);
        }
        for (int bits : new int[] {64, 128, 96, 160, 32 + 64, 15, 79, 15 + 128, 15 + 192}) {
            slot(x, 1, 11, bits, 4);
        }
        // with DIRECTORY the file's size is not 0; without it the directory's clusters are too many
        slot(x, 1, 11, 16, 4);
        slot(x, 2, 11, 32, 3);
        slot(x, 2, 11, 16, 0);
        slot(x, 2, 11, 55, 0);
        slot(x, 2, 11, 24, 4);
        slot(x, 2, 28, 1, 4);
        slot(x, 2, 31, 128, 4);
        slot(x, 1, 12, 255, 0);
        slot(x, 1, 0, 0, 6);
        slot(x, 1, 0, 229, 6);
        // what is not looked at may be anything
        slot(x, 5, 1, 77, 0);
        slot(x, 6, 0, 77, 0);
        slot(x, 5, 0, 77, 4);
        slot(x, 5, 0, 229, 0);
    }

    private static void times() {
        TableVolumes x = base();
        int at = 32;
        day(x, at + 24, 0, 4);
        day(x, at + 18, 0, 0);
        for (int place : new int[] {18, 24}) {
            day(x, at + place, 33, 0);
            day(x, at + place, 32, 4);
            day(x, at + place, 1, 4);
            day(x, at + place, 32 + 31, 0);
            day(x, at + place, 2 * 32 + 29, 0);
            day(x, at + place, 2 * 32 + 30, 4);
            day(x, at + place, 512 + 2 * 32 + 29, 4);
            day(x, at + place, 20 * 512 + 2 * 32 + 29, 0);
            day(x, at + place, 120 * 512 + 2 * 32 + 29, 4);
            day(x, at + place, 120 * 512 + 2 * 32 + 28, 0);
            day(x, at + place, 127 * 512 + 12 * 32 + 31, 0);
            day(x, at + place, 13 * 32 + 1, 4);
            day(x, at + place, 15 * 32 + 1, 4);
            int[] days = {31, 29, 31, 30, 31, 30, 31, 31, 30, 31, 30, 31};
            for (int month = 1; month <= 12; month++) {
                day(x, at + place, 32 * month + days[month - 1], 0);
                if (days[month - 1] < 31) {
                    day(x, at + place, 32 * month + days[month - 1] + 1, 4);
                }
            }
        }
        int[][] written = {{0, 0}, {23 * 2048 + 59 * 32 + 29, 0}, {24 * 2048, 4}, {60 * 32, 4}, {30, 4}, {31, 4}, {65535, 4},
            {63 * 32, 4}, {29, 0}, {59 * 32, 0}, {23 * 2048, 0}};
        for (int[] w : written) {
            day(x, at + 22, w[0], w[1]);
        }
        // what goes with a day 0 is 0
        day(x, at + 14, 1, 4);
        slot(x, 1, 13, 1, 4);
        day(x, at + 16, 33, 0);
        Kit.poke(x, ROOT, at + 16, 2, 33);
        for (int[] w : written) {
            day(x, at + 14, w[0], w[1]);
        }
        slot(x, 1, 13, 199, 0);
        slot(x, 1, 13, 200, 4);
        day(x, at + 16, 64 + 30, 4);
    }

    private static void day(TableVolumes x, int at, int value, int want) {
        long old = Kit.number(x, ROOT, at, 2);
        Kit.poke(x, ROOT, at, 2, value);
        Kit.due("fault with " + value + " (2) at " + at, x.fault(), want);
        Kit.poke(x, ROOT, at, 2, old);
        Kit.due("fault with " + old + " (2) at " + at, x.fault(), 0);
    }

    private static void shortNames() {
        TableVolumes x = base();
        String may = "ABCDEFGHIJKLMNOPQRSTUVWXYZ0123456789!#$%&'()-@^_`{}~";
        for (int c = 1; c < 256; c++) {
            boolean fine = may.indexOf(c) >= 0;
            slot(x, 1, 0, c, fine ? 0 : c == 229 ? 6 : 4);
            slot(x, 1, 4, c, fine || c == ' ' ? 0 : 4);
            slot(x, 1, 8, c, fine || c == ' ' ? 0 : 4);
        }
        slot(x, 1, 1, ' ', 4);
        slot(x, 1, 3, ' ', 0);
        slot(x, 1, 5, 'A', 4);
        slot(x, 1, 9, 'A', 4);
        slot(x, 1, 7, 'A', 4);
        slot(x, 1, 4, 0, 4);
        Kit.poke(x, ROOT, 32, 8, 0x4141414141414141L);
        Kit.due("eight of eight", x.fault(), 0);
        Kit.poke(x, ROOT, 40, 3, 0x414141);
        Kit.due("three of three", x.fault(), 0);
        slot(x, 1, 9, ' ', 4);
    }

    private static void parts() {
        TableVolumes x = base();
        Kit.due("number of the part", x.byteAt(ROOT, 96), 65);
        for (int number : new int[] {1, 64, 66, 64 + 128 + 1, 2, 129}) {
            slot(x, 3, 0, number, 4);
        }
        slot(x, 3, 0, 229, 0);
        slot(x, 3, 0, 0, 0);
        slot(x, 3, 11, 15 + 64, 0);
        slot(x, 3, 11, 15 + 192, 0);
        slot(x, 3, 11, 31, 4);
        slot(x, 3, 12, 1, 4);
        slot(x, 3, 13, x.byteAt(ROOT, 96 + 13) ^ 1, 4);
        slot(x, 3, 26, 1, 4);
        slot(x, 3, 27, 1, 4);
        // without what belongs to it: an empty slot, one that is not looked at, a label
        slot(x, 4, 0, 229, 4);
        slot(x, 4, 0, 0, 4);
        slot(x, 4, 11, 8, 4);
        slot(x, 4, 11, 15, 4);
        // the short name that the sum is of
        slot(x, 4, 0, 'Z', 4);

        TableVolumes y = new TableVolumes(256);
        y.format(2, 8, 2, 0);
        Kit.makeFile(y, "a name of twenty-seven unit");
        Kit.due("numbers", Kit.text(y, ROOT, 0, 1) + Kit.text(y, ROOT, 32, 1) + Kit.text(y, ROOT, 64, 1), "C\2\1");
        poked(y, ROOT, 0, 3, 4);
        poked(y, ROOT, 0, 66, 4);
        poked(y, ROOT, 32, 1, 4);
        poked(y, ROOT, 32, 66, 4);
        poked(y, ROOT, 64, 2, 4);
        poked(y, ROOT, 64, 65, 4);
        poked(y, ROOT, 32, 229, 4);
        poked(y, ROOT, 0, 229, 4);
        poked(y, ROOT, 32 + 13, y.byteAt(ROOT, 32 + 13) ^ 128, 4);
        partsToTheEnd();
    }

    /** A directory that ends with a part. */
    private static void partsToTheEnd() {
        TableVolumes x = new TableVolumes(256);
        x.format(2, 8, 2, 0);
        for (int i = 0; i < 30; i++) {
            Kit.makeFile(x, "F" + i);
        }
        Kit.makeFile(x, "a b");
        Kit.due("a full cluster", x.fault(), 0);
        poked(x, 11, 480 + 11, 15, 4);
        poked(x, 11, 480, 229, 4);
        // the second slot of a name in another cluster
        x.remove(30);
        x.remove(29);
        Kit.makeFile(x, "thirty-nine units of a name, no less...x");
        Kit.due("a part in another cluster", x.fault(), 0);
        Kit.due("free", x.free(), 121);
        poked(x, 12, 0, x.byteAt(12, 0) ^ 1, 4);
    }

    private static void longNames() {
        TableVolumes x = base();
        int at = 3 * 32;
        Kit.due("units", Kit.number(x, ROOT, at + 1, 2), 'a');
        Kit.due("the 0", Kit.number(x, ROOT, at + 7, 2), 0);
        Kit.due("65535", Kit.number(x, ROOT, at + 9, 2), 65535);
        Kit.due("65535 to the end", Kit.number(x, ROOT, at + 30, 2), 65535);
        for (int bad : new int[] {1, 31, '"', '*', '/', ':', '<', '>', '?', '\\', '|', 127, 55296, 57343, 65534, 65535}) {
            day(x, at + 1, bad, 4);
            day(x, at + 5, bad, 4);
        }
        for (int good : new int[] {' ', '.', '+', ',', ';', '=', '[', ']', 'z', 128, 55295, 57344, 65533}) {
            day(x, at + 1, good, 0);
            day(x, at + 5, good, good == ' ' || good == '.' ? 4 : 0);
        }
        day(x, at + 1, 0, 4);
        day(x, at + 5, 0, 4);
        day(x, at + 7, 'c', 4);
        day(x, at + 7, 65535, 4);
        day(x, at + 9, 0, 4);
        day(x, at + 14, 'c', 4);
        day(x, at + 30, 0, 4);
        day(x, at + 30, 65534, 4);
        fullParts();
        points255();
    }

    private static void fullParts() {
        TableVolumes x = new TableVolumes(256);
        x.format(2, 8, 2, 0);
        Kit.makeFile(x, "thirteen unit");
        Kit.due("one part", x.about(0, 6), 1);
        Kit.due("its last unit", Kit.number(x, ROOT, 30, 2), 't');
        Kit.makeFile(x, "fourteen units");
        Kit.due("two parts", x.about(1, 6), 2);
        // slots 2, 3, 4: the first part has the last unit, a 0, and fillers
        day(x, 64 + 3, 65535, 4);
        day(x, 64 + 3, 's', 4);
        day(x, 64 + 1, 0, 4);
        day(x, 96 + 30, 0, 4);
        day(x, 30, 0, 0);
        day(x, 30, 65535, 4);
        // exactly 13 units in two parts: the second has nothing of the name
        Kit.poke(x, ROOT, 64 + 1, 2, 0);
        Kit.poke(x, ROOT, 64 + 3, 2, 65535);
        Kit.due("a part too many", x.fault(), 4);
    }

    private static void points255() {
        TableVolumes x = new TableVolumes(256);
        x.format(2, 8, 2, 0);
        String name = "x".repeat(255);
        Kit.makeFile(x, name);
        Kit.due("parts of 255 units", x.about(0, 6), 20);
        Kit.due("fault", x.fault(), 0);
        // part 20 has units 247 .. 254, the 0, and four fillers
        Kit.due("the 0", Kit.number(x, ROOT, 14 + 6, 2), 0);
        Kit.poke(x, ROOT, 20, 2, 'x');
        Kit.poke(x, ROOT, 22, 2, 0);
        Kit.due("256 units", x.fault(), 4);
        Kit.poke(x, ROOT, 22, 2, 'x');
        Kit.poke(x, ROOT, 24, 2, 'x');
        Kit.poke(x, ROOT, 28, 2, 'x');
        Kit.poke(x, ROOT, 30, 2, 'x');
        Kit.due("260 units", x.fault(), 4);
        Kit.poke(x, ROOT, 20, 2, 0);
        Kit.due("255 units with wrong fillers", x.fault(), 4);
        for (int at : new int[] {22, 24, 28, 30}) {
            Kit.poke(x, ROOT, at, 2, 65535);
        }
        Kit.due("255 units again", x.fault(), 0);
    }

    private static void points() {
        TableVolumes x = base();
        // DIR is cluster 3: sector 12; SUB in it cluster 6: sector 18
        for (int sector : new int[] {12, 18}) {
            for (int slot = 0; slot < 2; slot++) {
                int at = slot * 32;
                poked(x, sector, at, 0, 4);
                poked(x, sector, at, 229, 4);
                poked(x, sector, at, 'A', 4);
                poked(x, sector, at + 1, slot == 0 ? '.' : ' ', 4);
                poked(x, sector, at + 10, 'A', 4);
                poked(x, sector, at + 11, 48, 4);
                poked(x, sector, at + 11, 0, 4);
                poked(x, sector, at + 11, 15, 4);
                poked(x, sector, at + 26, 7, 4);
                poked(x, sector, at + 20, 1, 4);
                for (int other : new int[] {12, 13, 14, 15, 16, 17, 18, 19, 22, 23, 24, 25, 28, 31}) {
                    poked(x, sector, at + other, 255, 0);
                }
            }
        }
        // the parent of the root's is 0, not the root's first cluster
        poked(x, 12, 32 + 26, 2, 4);
        poked(x, 18, 32 + 26, 0, 4);
        // the root has none of them
        slot(x, 1, 0, '.', 4);
    }

    private static void labels() {
        TableVolumes x = base();
        slot(x, 0, 11, 8 + 32, 0);
        slot(x, 0, 11, 8 + 7 + 32, 0);
        slot(x, 0, 11, 8 + 16, 4);
        slot(x, 0, 11, 8 + 64, 4);
        slot(x, 0, 26, 1, 4);
        slot(x, 0, 21, 1, 4);
        slot(x, 0, 28, 1, 4);
        slot(x, 0, 31, 1, 4);
        slot(x, 0, 24, 0, 4);
        slot(x, 0, 2, ' ', 0);
        slot(x, 0, 10, 'X', 0);
        slot(x, 0, 0, ' ', 4);
        slot(x, 0, 1, 'a', 4);
        slot(x, 0, 1, '.', 4);
        slot(x, 0, 11, 0, 0);
        // a second one; in a directory; with a part
        Kit.makeFile(x, "EMPTY");
        slot(x, 5, 11, 8, 4);
        slot(x, 4, 11, 8, 4);
        poked(x, 12, 96 + 32 + 11, 8, 4);
        x.enter(1);
        Kit.makeFile(x, "EMPTY");
        Kit.due("a label in a directory: before", x.byteAt(12, 160), 'E');
        poked(x, 12, 160 + 11, 8, 4);
        // first the label, as a file; then the other one is a label alone
        x.poke(ROOT, 11, 0);
        slot(x, 5, 11, 8, 0);
        // labels do not count for names
        x.poke(ROOT, 11, 8);
        String label = "FILE ";
        for (int i = 0; i < 5; i++) {
            x.poke(ROOT, i, label.charAt(i));
        }
        Kit.due("a label called as a file", x.fault(), 0);
        x.poke(ROOT, 11, 0);
        Kit.due("a file called as a file", x.fault(), 5);
    }

    private static void twins() {
        TableVolumes x = new TableVolumes(256);
        x.format(2, 8, 2, 0);
        Kit.makeFile(x, "AB");
        Kit.makeFile(x, "AC");
        poked(x, ROOT, 32 + 1, 'B', 5);
        poked(x, ROOT, 1, 'C', 5);
        Kit.makeFile(x, "long name");
        Kit.makeFile(x, "long nama");
        // slots 2, 3 and 4, 5; unit 8 is at 20 of the part
        poked(x, ROOT, 128 + 20, 'e', 5);
        poked(x, ROOT, 128 + 20, 'E', 5);
        poked(x, ROOT, 128 + 20, 'f', 0);
        poked(x, ROOT, 64 + 20, 'A', 5);
        // the same short name, with its sum: LONGNA~2 becomes LONGNA~1
        int sum = x.byteAt(ROOT, 128 + 13);
        x.poke(ROOT, 128 + 13, x.byteAt(ROOT, 64 + 13));
        Kit.due("a wrong sum comes first", x.fault(), 4);
        x.poke(ROOT, 160 + 7, '1');
        Kit.due("the same short name", x.fault(), 5);
        x.poke(ROOT, 160 + 7, '2');
        x.poke(ROOT, 128 + 13, sum);
        Kit.due("as before", x.fault(), 0);
        // a name may be what another one's short name shows
        Kit.makeFile(x, "LONGNA~9");
        Kit.due("names and short names are held apart", x.fault(), 0);
        // the same name with parts and without
        Kit.makeFile(x, "ab c");
        Kit.due("part of ab c", x.byteAt(ROOT, 224), 65);
        Kit.poke(x, ROOT, 224 + 5, 2, 0);
        Kit.poke(x, ROOT, 224 + 7, 2, 65535);
        Kit.due("now ab: not as told", x.fault(), 4);
        Kit.poke(x, ROOT, 224 + 9, 2, 65535);
        Kit.due("ab and AB", x.fault(), 5);
        // only a .. z are taken for capitals
        TableVolumes y = new TableVolumes(256);
        y.format(2, 8, 2, 0);
        Kit.makeFile(y, "\u00e9\u0131{");
        Kit.makeFile(y, "\u00c9\u0131{");
        Kit.makeFile(y, "\u00e9\u0131[");
        Kit.due("other letters are unlike", y.fault(), 0);
        Kit.due("all three are there", y.items(), 3);
        // another directory may have the same names
        Kit.makeDirectory(y, "D");
        y.enter(3);
        Kit.makeFile(y, "D");
        Kit.makeFile(y, "\u00e9\u0131{");
        Kit.due("in another directory", y.fault(), 0);
    }

    private static void fileChains() {
        TableVolumes x = base();
        Kit.due("first cluster of FILE", x.byteAt(ROOT, 32 + 26), 4);
        linked(x, 4, 0, 3);
        linked(x, 5, 0, 3);
        linked(x, 4, 2, 3);
        linked(x, 4, 4, 3);
        linked(x, 5, 4, 3);
        linked(x, 4, 268435455, 3);
        linked(x, 4, 50, 3);
        linked(x, 5, 50, 3);
        // clusters of a directory whose turn comes later
        linked(x, 4, 3, 3);
        for (int begin : new int[] {0, 1, 2, 3, 5, 50, 125}) {
            slot(x, 1, 26, begin, 3);
        }
        slot(x, 1, 20, 1, 3);
        slot(x, 1, 21, 255, 3);
        // 2000 = 7 * 256 + 208 bytes want two clusters: so do 1025 .. 2048
        day(x, 32 + 28, 0, 3);
        day(x, 32 + 28, 1, 3);
        day(x, 32 + 28, 1024, 3);
        day(x, 32 + 28, 1025, 0);
        day(x, 32 + 28, 2048, 0);
        day(x, 32 + 28, 2049, 3);
        slot(x, 1, 30, 1, 3);
        slot(x, 1, 31, 128, 3);
        slot(x, 1, 31, 255, 3);
        // an empty file has no cluster
        slot(x, 4, 26, 50, 3);
        slot(x, 4, 28, 1, 3);
        slot(x, 4, 20, 1, 3);
    }

    private static void lost() {
        TableVolumes x = base();
        linked(x, 124, 268435455, 6);
        linked(x, 7, 8, 6);
        linked(x, 7, 7, 6);
        linked(x, 7, 4, 6);
        linked(x, 2, 268435455, 0);
        slot(x, 2, 0, 229, 6);
        slot(x, 1, 0, 0, 6);
    }

    private static void order() {
        // in the order 1, 2, 3, 4: each hides what comes behind it
        TableVolumes x = base();
        linkBoth(x, 124, 268435455);
        Kit.due("6 alone", x.fault(), 6);
        x.poke(18, 0, 'A');
        Kit.due("4 in SUB", x.fault(), 4);
        linkBoth(x, 6, 0);
        Kit.due("3 of SUB's chain comes before it", x.fault(), 3);
        x.poke(12, 3 * 32 + 12, 1);
        Kit.due("4 in DIR comes before it", x.fault(), 4);
        x.poke(ROOT, 32 + 28, 0);
        x.poke(ROOT, 32 + 29, 0);
        Kit.due("3 of FILE comes before it", x.fault(), 3);
        x.poke(ROOT, 3 * 32 + 12, 1);
        Kit.due("4 in a later slot of the root does not", x.fault(), 3);
        x.poke(ROOT, 12, 1);
        x.poke(ROOT, 31, 1);
        Kit.due("4 in an earlier slot does", x.fault(), 4);
        linkBoth(x, 2, 0);
        Kit.due("3 of the root's chain", x.fault(), 3);
        x.poke(9, 4 * 60, 1);
        Kit.due("2", x.fault(), 2);
        x.poke(0, 50, 1);
        Kit.due("1", x.fault(), 1);
        sameSlot();
        turns();
    }

    /** In one slot 4 comes before 5, and 5 before 3. */
    private static void sameSlot() {
        TableVolumes x = new TableVolumes(256);
        x.format(2, 8, 2, 0);
        Kit.makeFile(x, "AB");
        Kit.makeFile(x, "AC");
        x.poke(ROOT, 32 + 28, 1);
        Kit.due("3", x.fault(), 3);
        x.poke(ROOT, 32 + 1, 'B');
        Kit.due("5", x.fault(), 5);
        x.poke(ROOT, 32 + 24, 0);
        Kit.due("4", x.fault(), 4);
        x.poke(ROOT, 28, 1);
        Kit.due("3 of the slot before", x.fault(), 3);
    }

    /** A directory's turn comes behind all of the one that has it, in the order of the items. */
    private static void turns() {
        TableVolumes x = new TableVolumes(256);
        x.format(2, 8, 2, 0);
        Kit.makeDirectory(x, "A");
        Kit.makeDirectory(x, "B");
        x.enter(0);
        Kit.makeDirectory(x, "AA");
        x.up();
        // A is cluster 3 (sector 12), B 4 (14), AA 5 (16)
        linkBoth(x, 5, 0);
        Kit.due("AA's chain", x.fault(), 3);
        x.poke(14, 0, 'X');
        Kit.due("B comes before AA", x.fault(), 4);
        x.poke(14, 0, '.');
        linkBoth(x, 4, 0);
        linkBoth(x, 5, 268435455);
        x.poke(16, 0, 'X');
        Kit.due("B's chain comes before what AA has", x.fault(), 3);
        x.poke(12, 0, 'X');
        Kit.due("what A has comes before B's chain", x.fault(), 4);
        x.poke(12, 0, '.');
        x.poke(16, 0, '.');
        linkBoth(x, 4, 268435455);
        Kit.due("as before", x.fault(), 0);
        Kit.makeFile(x, "C");
        x.poke(ROOT, 64 + 28, 1);
        x.poke(12, 0, 'X');
        Kit.due("the root's slots come before what A has", x.fault(), 3);
    }

    private static void linkBoth(TableVolumes x, int cluster, long value) {
        Kit.poke(x, 8, 4 * cluster, 4, value);
        Kit.poke(x, 9, 4 * cluster, 4, value);
    }

    private FaultTest() {
    }
}
