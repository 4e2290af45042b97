/** Promises 1 a new object, 6 poke, 8 byteAt, 9 free. */
public final class DiskTest {
    public static void main(String[] args) {
        Kit.says("N is sectors, 256 if that is less, 1024 if it is more, and one less if it is odd.", DiskTest::sectors);
        Kit.says("Byte at of a sector becomes value (its lowest eight bits): true", DiskTest::poke);
        Kit.says("false if there is no such byte.", DiskTest::noSuchByte);
        Kit.says("A byte as it stands on the disk", DiskTest::asItStands);
        Kit.says("NONE if there is none such", DiskTest::noneSuch);
        Kit.says("if sector 0 is as told also for those of clusters that are free (by the first table)", DiskTest::freeClusters);
        Kit.says("and of sectors behind the last cluster", DiskTest::behindTheLast);
        Kit.says("How many clusters are free (by the first table)", DiskTest::free);
        Kit.says("NONE if sector 0 is not as told.", DiskTest::freeOfNone);
        Kit.end();
    }

    private static void sectors() {
        int[][] cases = {{Integer.MIN_VALUE, 256}, {-257, 256}, {-1, 256}, {0, 256}, {1, 256}, {254, 256}, {255, 256}, {256, 256},
            {257, 256}, {258, 258}, {259, 258}, {300, 300}, {301, 300}, {1022, 1022}, {1023, 1022}, {1024, 1024}, {1025, 1024},
            {1026, 1024}, {2048, 1024}, {Integer.MAX_VALUE - 1, 1024}, {Integer.MAX_VALUE, 1024}};
        for (int[] c : cases) {
            Run x = new Run(c[0]);
            Kit.due("last byte of " + c[0], x.byteAt(c[1] - 1, 511), 0);
            Kit.due("behind it", x.byteAt(c[1], 0), TableVolumes.NONE);
            Kit.holds("the last byte can be poked", x.poke(c[1] - 1, 511, 1));
            Kit.holds("none behind it", !x.poke(c[1], 0, 1));
            x.format(8, 64, 2, 0);
            Kit.due("N on the disk of " + c[0], Kit.number(x, 0, 32, 4), c[1]);
        }
    }

    private static void poke() {
        Run x = new Run(256);
        int[][] values = {{0, 0}, {1, 1}, {255, 255}, {256, 0}, {257, 1}, {0x1234, 0x34}, {-1, 255}, {-256, 0}, {-255, 1},
            {Integer.MIN_VALUE, 0}, {Integer.MAX_VALUE, 255}};
        for (int[] v : values) {
            for (int[] place : new int[][] {{0, 0}, {0, 511}, {100, 255}, {255, 0}, {255, 511}}) {
                Kit.holds("poke", x.poke(place[0], place[1], v[0]));
                Kit.due("byte", x.byteAt(place[0], place[1]), v[1]);
            }
        }
        // its neighbours stay
        for (int i = 0; i < 8; i++) {
            x.poke(3, i, 0xA0 + i);
        }
        x.poke(3, 4, 0);
        for (int i = 0; i < 8; i++) {
            Kit.due("byte " + i, x.byteAt(3, i), i == 4 ? 0 : 0xA0 + i);
        }
        x.poke(3, 511, 5);
        x.poke(4, 0, 6);
        Kit.due("the last byte", x.byteAt(3, 511), 5);
        Kit.due("the next sector", x.byteAt(4, 0), 6);
        Kit.due("one more", x.byteAt(4, 1), 0);
    }

    private static final int[][] NO_PLACES = {{-1, 0}, {256, 0}, {0, -1}, {0, 512}, {255, 512}, {1, -512}, {-1, 512}, {-1, 513},
        {Integer.MIN_VALUE, 0}, {Integer.MAX_VALUE, 511}, {0, Integer.MIN_VALUE}, {0, Integer.MAX_VALUE}, {8388608, 0},
        {8388608 + 3, 0}, {-8388608, 0}};

    private static void noSuchByte() {
        Run x = new Run(256);
        x.format(2, 8, 2, 0);
        Kit.makeDirectory(x, "D");
        x.enter(0);
        Kit.makeFile(x, "INSIDE");
        for (int[] place : NO_PLACES) {
            Kit.holds("no poke at " + place[0] + ", " + place[1], !x.poke(place[0], place[1], 7));
        }
        Kit.due("nothing is changed", x.fault(), 0);
        Kit.due("byte 0", x.byteAt(0, 0), 0);
        Kit.due("HERE is as before", Kit.nameOf(x, 0), "INSIDE");
        Kit.holds("a poke that is one", x.poke(255, 511, 7));
        Kit.due("HERE is the root", Kit.nameOf(x, 0), "D");
    }

    private static void asItStands() {
        Run x = new Run(256);
        x.poke(200, 17, 99);
        Kit.due("no volume", x.byteAt(200, 17), 99);
        x.format(2, 8, 2, 0x01020304);
        Kit.due("sector 0", x.byteAt(0, 67), 4);
        Kit.due("sector 6", x.byteAt(6, 70), 1);
        Kit.due("a table", x.byteAt(9, 4), 255);
        Kit.makeFile(x, "F");
        Kit.due("the root", x.byteAt(10, 0), 'F');
        x.grow(0, 2, 200);
        Kit.due("a file's byte", x.byteAt(12, 1), 201);
        Kit.due("one behind its size", x.byteAt(12, 2), 0);
    }

    private static void noneSuch() {
        Run blank = new Run(256);
        Run x = new Run(256);
        x.format(2, 8, 2, 0);
        for (int[] place : NO_PLACES) {
            Kit.due("no byte at " + place[0] + ", " + place[1], blank.byteAt(place[0], place[1]), TableVolumes.NONE);
            Kit.due("no byte at " + place[0] + ", " + place[1], x.byteAt(place[0], place[1]), TableVolumes.NONE);
        }
    }

    private static void freeClusters() {
        Run x = new Run(256);
        x.format(8, 11, 1, 0);
        // sectors 12 .. 251: the root is 12 .. 19
        x.poke(20, 0, 9);
        Kit.due("the root's first byte", x.byteAt(12, 0), 0);
        Kit.due("its last one", x.byteAt(19, 511), 0);
        Kit.due("a free cluster's first byte", x.byteAt(20, 0), TableVolumes.NONE);
        Kit.due("its last one", x.byteAt(27, 511), TableVolumes.NONE);
        x.poke(11, 12, 255);
        Kit.due("not free by the table", x.byteAt(20, 0), 9);
        Kit.due("the next one is", x.byteAt(28, 0), TableVolumes.NONE);
        x.poke(11, 12, 0);
        x.poke(11, 15, 0xF0);
        Kit.due("the highest four bits do not count", x.byteAt(20, 0), TableVolumes.NONE);
        x.poke(11, 15, 1);
        Kit.due("the others do", x.byteAt(20, 0), 9);
        x.poke(11, 15, 0);
        // sector 0 is not as told
        x.poke(0, 510, 0);
        Kit.due("shown then", x.byteAt(20, 0), 9);
        x.poke(0, 510, 0x55);
        Kit.due("and not any more", x.byteAt(20, 0), TableVolumes.NONE);
        // the root's own cluster, and with other faults
        Kit.poke(x, 11, 8, 4, 0);
        Kit.due("the root, free", x.byteAt(12, 0), TableVolumes.NONE);
        Kit.due("the sector before it", x.byteAt(11, 0), 248);
        Run two = new Run(256);
        two.format(2, 8, 2, 0);
        two.poke(9, 12, 255);
        Kit.due("not free by the second table alone", two.byteAt(12, 0), TableVolumes.NONE);
        two.poke(8, 12, 255);
        two.poke(9, 12, 0);
        Kit.due("not free by the first table alone", two.byteAt(12, 0), 0);
    }

    private static void behindTheLast() {
        Run x = new Run(256);
        Kit.due("clusters", x.format(8, 11, 1, 0), 30);
        for (int sector = 252; sector < 256; sector++) {
            x.poke(sector, 0, 7);
            x.poke(sector, 511, 8);
        }
        x.poke(11, 4 * 31, 255);
        x.poke(11, 4 * 32, 255);
        Kit.due("the last cluster", x.byteAt(251, 511), 0);
        for (int sector = 252; sector < 256; sector++) {
            Kit.due("first byte", x.byteAt(sector, 0), TableVolumes.NONE);
            Kit.due("last byte", x.byteAt(sector, 511), TableVolumes.NONE);
        }
        x.poke(0, 510, 0);
        for (int sector = 252; sector < 256; sector++) {
            Kit.due("first byte", x.byteAt(sector, 0), 7);
            Kit.due("last byte", x.byteAt(sector, 511), 8);
        }
        // no sector is behind the last cluster
        Run full = new Run(258);
        Kit.due("clusters", full.format(8, 8, 2, 0), 31);
        Kit.link(full, 32, 268435455);
        Kit.due("the last sector", full.byteAt(257, 511), 0);
    }

    private static void free() {
        Run x = new Run(256);
        Kit.due("clusters", x.format(2, 8, 2, 0), 123);
        Kit.due("all but the root's", x.free(), 122);
        Kit.makeDirectory(x, "D");
        Kit.due("but the directory's", x.free(), 121);
        Kit.makeFile(x, "F");
        Kit.due("an empty file has none", x.free(), 121);
        Run full = x.fork();
        full.grow(1, 121 * 1024, 0);
        Kit.due("none", full.free(), 0);
        // faults do not matter, nor does the second table
        x.poke(9, 4 * 50, 255);
        Kit.due("by the second table", x.free(), 121);
        x.poke(8, 4 * 124, 1);
        Kit.due("cluster K + 1", x.free(), 120);
        x.poke(8, 4 * 125, 1);
        Kit.due("no cluster has it", x.free(), 120);
        Kit.poke(x, 8, 0, 8, 0);
        Kit.due("entries 0 and 1 are no clusters", x.free(), 120);
        Kit.poke(x, 8, 8, 4, 0);
        Kit.due("the root's", x.free(), 121);
        Kit.poke(x, 8, 8, 4, 15L << 28);
        Kit.due("by the lowest 28 bits", x.free(), 121);
    }

    private static void freeOfNone() {
        Run x = new Run(256);
        Kit.due("a new object", x.free(), TableVolumes.NONE);
        x.format(2, 8, 2, 0);
        Kit.due("formatted", x.free(), 122);
        for (int[] wrong : new int[][] {{11, 1}, {13, 1}, {14, 7}, {16, 3}, {32, 1}, {36, 0}, {44, 0}, {44, 125}, {48, 0}, {510, 0}}) {
            Run y = x.fork();
            y.poke(0, wrong[0], wrong[1]);
            Kit.due("with " + wrong[1] + " at " + wrong[0], y.free(), TableVolumes.NONE);
        }
    }

    private DiskTest() {
    }
}
