/** Promises 1 a new object, 6 poke, 8 byteAt, 9 free. */
public final class DiskTest {
    public static void main(String[] args) {
        sectors();
        pokes();
        shown();
        free();
        Kit.end();
    }

    private static void sectors() {
        int[][] cases = {{0, 256}, {Integer.MIN_VALUE, 256}, {-1, 256}, {255, 256}, {256, 256}, {257, 256}, {258, 258},
            {301, 300}, {1023, 1022}, {1024, 1024}, {1025, 1024}, {Integer.MAX_VALUE, 1024}};
        for (int[] c : cases) {
            TableVolumes x = new TableVolumes(c[0]);
            Kit.due("last sector of " + c[0], x.byteAt(c[1] - 1, 511), 0);
            Kit.due("behind the last sector of " + c[0], x.byteAt(c[1], 0), TableVolumes.NONE);
            x.format(8, 64, 2, 0);
            Kit.due("N on the disk of " + c[0], Kit.number(x, 0, 32, 4), c[1]);
        }
        TableVolumes x = new TableVolumes(256);
        for (int i = 0; i < 256 * 512; i++) {
            Kit.holds("all is 0 at first", x.byteAt(i / 512, i % 512) == 0);
        }
        Kit.due("no volume at first", x.fault(), 1);
    }

    private static void pokes() {
        TableVolumes x = new TableVolumes(256);
        Kit.holds("poke", x.poke(255, 511, 0x1234));
        Kit.due("its lowest eight bits", x.byteAt(255, 511), 0x34);
        Kit.holds("poke of a negative value", x.poke(0, 0, -1));
        Kit.due("its lowest eight bits", x.byteAt(0, 0), 255);
        Kit.due("its neighbour", x.byteAt(0, 1), 0);
        for (int i = 0; i < 8; i++) {
            x.poke(3, i, 0xA0 + i);
        }
        for (int i = 0; i < 8; i++) {
            Kit.due("byte " + i, x.byteAt(3, i), 0xA0 + i);
        }
        int[][] none = {{-1, 0}, {256, 0}, {0, -1}, {0, 512}, {Integer.MIN_VALUE, 0}, {Integer.MAX_VALUE, 511},
            {0, Integer.MIN_VALUE}, {0, Integer.MAX_VALUE}, {8388608, 0}};
        for (int[] c : none) {
            Kit.holds("no poke at " + c[0] + ", " + c[1], !x.poke(c[0], c[1], 7));
            Kit.due("no byte at " + c[0] + ", " + c[1], x.byteAt(c[0], c[1]), TableVolumes.NONE);
        }
    }

    private static void shown() {
        TableVolumes x = new TableVolumes(258);
        Kit.due("clusters", x.format(8, 8, 2, 0), 31);
        // 10 sectors, 31 clusters of 8: sectors 10 .. 257 (no sector is left)
        Kit.due("the root", x.byteAt(10, 0), 0);
        Kit.due("the root's last byte", x.byteAt(17, 511), 0);
        Kit.due("a free cluster", x.byteAt(18, 0), TableVolumes.NONE);
        Kit.due("the last cluster, free", x.byteAt(257, 511), TableVolumes.NONE);
        x.format(8, 11, 1, 0);
        // 12 sectors, 30 clusters: sectors 12 .. 251
        x.poke(252, 0, 7);
        x.poke(20, 0, 9);
        Kit.due("behind the last cluster", x.byteAt(252, 0), TableVolumes.NONE);
        Kit.due("a free cluster", x.byteAt(20, 0), TableVolumes.NONE);
        x.poke(11, 12, 255);
        Kit.due("by the first table not free", x.byteAt(20, 0), 9);
        x.poke(11, 12, 0);
        x.poke(11, 15, 0xF0);
        Kit.due("the highest four bits do not count", x.byteAt(20, 0), TableVolumes.NONE);
        x.poke(11, 4 * 31, 3);
        Kit.due("the last cluster, not free", x.byteAt(251, 511), 0);
        x.poke(0, 510, 0);
        Kit.due("sector 0 not as told: behind the last cluster", x.byteAt(252, 0), 7);
        Kit.due("sector 0 not as told: a free cluster", x.byteAt(20, 0), 9);
        Kit.due("sector 0 not as told: another free cluster", x.byteAt(30, 0), 0);

        TableVolumes two = new TableVolumes(256);
        two.format(2, 8, 2, 0);
        two.poke(9, 12, 255);
        Kit.due("the second table does not count", two.byteAt(12, 0), TableVolumes.NONE);
        Kit.due("nor for free", two.free(), 122);
        Kit.due("though it is a fault", two.fault(), 2);
    }

    private static void free() {
        TableVolumes x = new TableVolumes(256);
        Kit.due("no volume", x.free(), TableVolumes.NONE);
        Kit.due("clusters", x.format(2, 8, 2, 0), 123);
        Kit.due("but the root's", x.free(), 122);
        Kit.makeDirectory(x, "D");
        Kit.due("but the directory's", x.free(), 121);
        x.poke(8, 4 * 124, 1);
        Kit.due("entry 1 more, and wrong", x.free(), 120);
        x.poke(8, 4 * 125, 1);
        Kit.due("no cluster has it", x.free(), 120);
        x.poke(8, 0, 0);
        Kit.due("entries 0 and 1 are no clusters", x.free(), 120);
        Kit.poke(x, 8, 4, 4, 0);
        Kit.due("nor if entry 1 is 0", x.free(), 120);
        Kit.poke(x, 8, 8, 4, 0);
        Kit.due("the root's cluster, free", x.free(), 121);
        Kit.due("it is not shown then", x.byteAt(10, 0), TableVolumes.NONE);
        Kit.due("the sector before it is", x.byteAt(9, 0), 248);
        x.poke(0, 44, 0);
        Kit.due("the root is no cluster", x.free(), TableVolumes.NONE);
    }

    private DiskTest() {
    }
}
