/** What the document tells of the disk, SECTOR 0 and A TABLE, by the fault that comes of it: 1 or 2. */
public final class SectorZeroTest {
    public static void main(String[] args) {
        Kit.says("THE DISK has N SECTORS of 512 bytes, all 0 at first.", SectorZeroTest::disk);
        Kit.says("Numbers on it stand with their lowest byte first", SectorZeroTest::lowestFirst);
        Kit.says("at 11 (2) 512", SectorZeroTest::bytesOfSector);
        Kit.says("at 13 (1) C, 2, 4 or 8, sectors of a CLUSTER", SectorZeroTest::sectorsOfCluster);
        Kit.says("at 14 (2) V, 8 to 64, sectors before the tables", SectorZeroTest::sectorsBefore);
        Kit.says("at 16 (1) Y, 1 or 2, TABLES", SectorZeroTest::numberOfTables);
        Kit.says("at 17 (2), 19 (2) and 22 (2) 0", SectorZeroTest::zeros);
        Kit.says("at 32 (4) N", SectorZeroTest::sectors);
        Kit.says("at 36 (4) Z, 1 to 32, sectors of a table", SectorZeroTest::sectorsOfTable);
        Kit.says("at 44 (4) the ROOT's first cluster", SectorZeroTest::root);
        Kit.says("the root's first cluster is one.", SectorZeroTest::rootIsCluster);
        Kit.says("at 48 (2) 1; at 50 (2) 6; at 510 (2) 43605", SectorZeroTest::marks);
        Kit.says("SECTOR 0 is as told if", SectorZeroTest::whatIsNotTold);
        Kit.says("there are K = (N - A) / C clusters (down)", SectorZeroTest::clusters);
        Kit.says("at least 4", SectorZeroTest::fewestClusters);
        Kit.says("128 * Z is at least K + 2", SectorZeroTest::entriesForAll);
        Kit.says("CLUSTERS are 2 .. K + 1; cluster c has the sectors from A + (c - 2) * C on.", SectorZeroTest::places);
        Kit.says("of which the lowest 28 bits count", SectorZeroTest::lowestBits);
        Kit.says("0 the cluster is FREE, 2 .. K + 1 the next one of its CHAIN, 268435448 or more the chain's end",
                SectorZeroTest::values);
        Kit.says("Entries 0 and 1 are 268435448 and 268435455 (lowest 28 bits", SectorZeroTest::firstEntries);
        Kit.says("If there are two tables, they are alike byte by byte for entries 0 .. K + 1.", SectorZeroTest::alike);
        Kit.end();
    }

    /** 256 sectors; the tables are sectors 8 and 9, the clusters 2 .. 124 begin at sector 10. */
    private static Run small() {
        Run x = new Run(256);
        x.format(2, 8, 2, 0);
        return x;
    }

    private static void disk() {
        Run x = new Run(256);
        for (int i = 0; i < 256 * 512; i++) {
            Kit.due("byte " + i, x.byteAt(i / 512, i % 512), 0);
        }
        Kit.due("no 513th byte", x.byteAt(0, 512), TableVolumes.NONE);
        Kit.due("no sector N", x.byteAt(256, 0), TableVolumes.NONE);
        Kit.due("fault", x.fault(), 1);
        Run most = new Run(1024);
        for (int sector = 0; sector < 1024; sector++) {
            Kit.due("sector " + sector, most.byteAt(sector, sector % 512), 0);
        }
        Kit.due("the last byte", most.byteAt(1023, 511), 0);
    }

    private static void lowestFirst() {
        Run x = small();
        Kit.due("512", Kit.text(x, 0, 11, 2), "\0\2");
        Kit.faults(x, 0, 11, 2, 1, 2);
        Kit.due("268435448", Kit.text(x, 8, 0, 4), "\u00f8\u00ff\u00ff\17");
    }

    private static void bytesOfSector() {
        Run x = small();
        Kit.faults(x, 0, 11, 2, 0, 512);
        Kit.faults(x, 0, 11, 2, 1, 0, 1, 256, 511, 513, 1024, 2048, 512 + 32768);
    }

    private static void sectorsOfCluster() {
        for (int c = 2; c <= 8; c *= 2) {
            Run x = new Run(256);
            x.format(c, 8, 2, 0);
            Kit.due("fault", x.fault(), 0);
            for (int value = 0; value < 256; value++) {
                boolean asTold = value == 2 || value == 4 || value == 8;
                Kit.due("1 with " + value, Kit.faultWith(x, 0, 13, 1, value) == 1 ? 1 : 0, asTold ? 0 : 1);
            }
        }
    }

    private static void sectorsBefore() {
        for (int v = 8; v <= 64; v += 56) {
            Run x = new Run(256);
            x.format(2, v, 2, 0);
            Kit.due("fault", x.fault(), 0);
            Kit.faults(x, 0, 14, 2, 1, 0, 1, 7, 65, 128, 255, 256, 256 + 8, 32768 + 8, 65535);
            // as told, but the table is not there
            Kit.faults(x, 0, 14, 2, 2, v == 8 ? 64 : 8, 9, 63);
        }
    }

    private static void numberOfTables() {
        for (int y = 1; y <= 2; y++) {
            Run x = new Run(256);
            x.format(2, 8, y, 0);
            Kit.due("fault", x.fault(), 0);
            Kit.faults(x, 0, 16, 1, 0, y);
            Kit.faults(x, 0, 16, 1, 1, 0, 3, 4, 128, 129, 255);
        }
    }

    private static void zeros() {
        Run x = small();
        for (int at : new int[] {17, 19, 22}) {
            Kit.faults(x, 0, at, 2, 1, 1, 128, 256, 32768, 65535);
        }
    }

    private static void sectors() {
        for (int n : new int[] {256, 300, 1024}) {
            Run x = new Run(n);
            x.format(2, 8, 2, 0);
            Kit.faults(x, 0, 32, 4, 0, n);
            Kit.faults(x, 0, 32, 4, 1, 0, n - 2, n - 1, n + 1, n + 2, n + 65536, n + (1L << 24), n + (1L << 31), -1);
        }
    }

    private static void sectorsOfTable() {
        Run x = new Run(256);
        x.format(2, 8, 1, 0);
        // with more sectors than it needs, the clusters begin further behind, where all is 0, as in an empty root
        Kit.faults(x, 0, 36, 4, 0, 1, 2, 31, 32);
        Kit.faults(x, 0, 36, 4, 1, 0, 33, 64, 128, 255, 256, 257, 65537, (1L << 24) + 1, (1L << 31) + 1, -1);
    }

    private static void root() {
        Run x = small();
        Kit.makeFile(x, "F");
        // cluster 124 becomes the root, and cluster 2, with F in it, free
        x.poke(0, 44, 124);
        Kit.link(x, 124, 268435455);
        Kit.link(x, 2, 0);
        Kit.due("fault", x.fault(), 0);
        Kit.due("another root", x.items(), 0);
        Kit.due("make", Kit.makeFile(x, "G"), 0);
        Kit.due("in the last cluster", Kit.text(x, 254, 0, 11), "G          ");
    }

    private static void rootIsCluster() {
        Run x = small();
        Kit.faults(x, 0, 44, 4, 0, 2);
        Kit.faults(x, 0, 44, 4, 1, 0, 1, 125, 126, 255, 2 + 256, 2 + 65536, 2 + (1L << 24), 2 + (1L << 31), -1);
        // clusters, but free ones
        Kit.faults(x, 0, 44, 4, 3, 3, 124);
    }

    private static void marks() {
        Run x = small();
        Kit.faults(x, 0, 48, 2, 0, 1);
        Kit.faults(x, 0, 48, 2, 1, 0, 2, 257, 32769);
        Kit.faults(x, 0, 50, 2, 0, 6);
        Kit.faults(x, 0, 50, 2, 1, 0, 5, 7, 262, 32774);
        Kit.faults(x, 0, 510, 2, 0, 43605);
        Kit.faults(x, 0, 510, 2, 1, 0, 43604, 43606, 0x55AA, 43605 ^ 256, 43605 ^ 32768);
    }

    /** What no sentence tells of may be anything. */
    private static void whatIsNotTold() {
        Run x = small();
        boolean[] told = new boolean[512];
        for (int at : new int[] {11, 12, 13, 14, 15, 16, 17, 18, 19, 20, 22, 23, 32, 33, 34, 35, 36, 37, 38, 39, 44, 45, 46, 47, 48,
            49, 50, 51, 510, 511}) {
            told[at] = true;
        }
        for (int at = 0; at < 512; at++) {
            if (!told[at]) {
                Kit.faults(x, 0, at, 1, 0, 1, 255);
            }
        }
        // nor do the other sectors before the tables count
        for (int sector = 1; sector < 8; sector++) {
            Kit.faults(x, sector, 0, 1, 0, 0, 99);
            Kit.faults(x, sector, 13, 1, 0, 99);
            Kit.faults(x, sector, 511, 1, 0, 0, 99);
        }
    }

    private static void clusters() {
        int[][] cases = {{2, 8, 123}, {2, 9, 122}, {2, 10, 122}, {4, 8, 61}, {4, 10, 61}, {4, 11, 60}, {8, 8, 30}, {8, 14, 30},
            {8, 15, 29}, {8, 64, 23}};
        for (int[] c : cases) {
            Run x = new Run(256);
            Kit.due("clusters", x.format(c[0], c[1], 2, 0), c[2]);
            Kit.due("free", x.free(), c[2] - 1);
        }
    }

    /** No disk is so small that there are less than 4: these 16 are the fewest, and they will do. */
    private static void fewestClusters() {
        Run x = new Run(256);
        x.format(8, 64, 2, 0);
        x.poke(0, 36, 32);
        for (int i = 0; i < 12; i++) {
            x.poke(96, i, x.byteAt(64, i));
        }
        Kit.due("fault", x.fault(), 0);
        Kit.due("clusters but the root's", x.free(), 15);
        Kit.makeFile(x, "F");
        Kit.due("all of them", x.grow(0, 15 * 4096, 0), 15 * 4096);
        Kit.due("the last sector", x.byteAt(255, 511), (15 * 4096 - 1) * (15 * 4096 - 1) + 239 & 255);
        Kit.sound(x);
    }

    private static void entriesForAll() {
        // 126 clusters: 128 entries are just enough
        Run x = new Run(264);
        Kit.due("clusters", x.format(2, 10, 1, 0), 126);
        Kit.due("Z", Kit.number(x, 0, 36, 4), 1);
        Kit.due("fault", x.fault(), 0);
        Kit.poke(x, 10, 4 * 127, 4, 268435455);
        Kit.due("the last entry counts", x.free(), 124);
        // 127 clusters: they are not
        Kit.faults(x, 0, 14, 2, 1, 9, 8);
        Run y = new Run(264);
        Kit.due("clusters", y.format(2, 9, 1, 0), 126);
        Kit.due("so there are two sectors", Kit.number(y, 0, 36, 4), 2);
        Kit.faults(y, 0, 36, 4, 1, 1);
        // four sectors for 506 clusters, of which three are not enough
        Run most = new Run(1024);
        Kit.due("clusters", most.format(2, 8, 1, 0), 506);
        Kit.due("Z", Kit.number(most, 0, 36, 4), 4);
        Kit.faults(most, 0, 36, 4, 1, 3);
    }

    private static void places() {
        for (int c = 2; c <= 8; c *= 2) {
            Run x = new Run(256);
            int last = x.format(c, 13, 2, 0) + 1;
            int begin = 15;
            Kit.due("the sector before cluster 2", x.byteAt(begin - 1, 0), 248);
            Kit.due("cluster 2 is the root", x.byteAt(begin, 0), 0);
            Kit.due("its last byte", x.byteAt(begin + c - 1, 511), 0);
            Kit.due("cluster 3 is free", x.byteAt(begin + c, 0), TableVolumes.NONE);
            Kit.due("cluster K + 1", x.byteAt(begin + (last - 2) * c, 0), TableVolumes.NONE);
            Kit.poke(x, 13, 4 * last, 4, 268435455);
            Kit.due("cluster K + 1, not free", x.byteAt(begin + (last - 2) * c, 0), 0);
            Kit.due("its last byte", x.byteAt(begin + (last - 1) * c - 1, 511), 0);
            Kit.due("the last byte of cluster K", x.byteAt(begin + (last - 2) * c - 1, 511), TableVolumes.NONE);
            if (begin + (last - 1) * c < 256) {
                Kit.due("behind it", x.byteAt(begin + (last - 1) * c, 0), TableVolumes.NONE);
            }
        }
    }

    private static void lowestBits() {
        Run x = small();
        for (long high = 0; high < 16; high++) {
            Kit.linkFaults(x, 50, 0, high << 28);
            Kit.linkFaults(x, 50, 2, (high << 28) + 1, (high << 28) + 268435447);
            Kit.linkFaults(x, 50, 6, (high << 28) + 268435448);
            Kit.linkFaults(x, 2, 0, (high << 28) + 268435455);
            Run free = x.fork();
            Kit.link(free, 50, high << 28);
            Kit.due("free", free.free(), 122);
            Kit.due("not shown", free.byteAt(10 + 2 * 48, 0), TableVolumes.NONE);
        }
    }

    private static void values() {
        Run x = small();
        for (int cluster : new int[] {3, 50, 124}) {
            Kit.linkFaults(x, cluster, 0, 0);
            // as told, but in no chain
            Kit.linkFaults(x, cluster, 6, 2, 3, 50, 124, 268435448, 268435449, 268435454, 268435455);
            // none of the three
            Kit.linkFaults(x, cluster, 2, 1, 125, 126, 1000, 65536 + 3, 134217728, 268435446, 268435447);
        }
        for (long end = 268435448; end <= 268435455; end++) {
            Kit.linkFaults(x, 2, 0, end);
        }
        Kit.linkFaults(x, 2, 2, 1, 125, 268435447);
        // clusters, but free ones, or itself
        Kit.linkFaults(x, 2, 3, 0, 2, 3, 124);
    }

    private static void firstEntries() {
        Run x = small();
        for (long high = 0; high < 16; high++) {
            Kit.linkFaults(x, 0, 0, (high << 28) + 268435448);
            Kit.linkFaults(x, 1, 0, (high << 28) + 268435455);
        }
        Kit.linkFaults(x, 0, 2, 0, 2, 268435447, 268435449, 268435455);
        Kit.linkFaults(x, 1, 2, 0, 2, 268435447, 268435448, 268435454);
    }

    private static void alike() {
        Run x = small();
        for (int table = 8; table <= 9; table++) {
            for (int entry : new int[] {0, 1, 2, 3, 50, 123, 124}) {
                for (int i = 0; i < 4; i++) {
                    int old = x.byteAt(table, 4 * entry + i);
                    Kit.faults(x, table, 4 * entry + i, 1, 2, old ^ 16);
                }
                int high = x.byteAt(table, 4 * entry + 3);
                Kit.faults(x, table, 4 * entry + 3, 1, 2, high ^ 128);
            }
            for (int entry = 125; entry < 128; entry++) {
                Kit.faults(x, table, 4 * entry, 4, 0, 1, 268435447, -1);
            }
        }
        // one end of a chain is not like another
        Run end = x.fork();
        end.poke(9, 8, 248);
        Kit.due("two ends", end.fault(), 2);
        // in the second sector of tables that have two
        Run large = new Run(600);
        Kit.due("clusters", large.format(2, 8, 2, 0), 293);
        Kit.due("Z", Kit.number(large, 0, 36, 4), 3);
        for (int entry : new int[] {128, 255, 256, 294}) {
            Kit.faults(large, 8 + entry / 128, entry % 128 * 4 + 3, 1, 2, 16);
            Kit.faults(large, 11 + entry / 128, entry % 128 * 4 + 3, 1, 2, 16);
        }
        Kit.faults(large, 10, 295 % 128 * 4, 1, 0, 1);
        Kit.faults(large, 13, 295 % 128 * 4, 1, 0, 1);
    }

    private SectorZeroTest() {
    }
}
