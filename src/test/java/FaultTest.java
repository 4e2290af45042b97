/** Promise 7 fault: chains, what is lost, and which fault comes first; what slots must be is in SlotTest and NameTest. */
public final class FaultTest {
    private static final int ROOT = 10;
    private static final int DIR = 12;
    private static final int SUB = 18;

    public static void main(String[] args) {
        Kit.says("The fault of the volume, 0 if it is sound.", FaultTest::answers);
        Kit.says("1 sector 0 is not as told.", FaultTest::one);
        Kit.says("2 an entry of the tables (0 .. K + 1, in this order) is not as told, or unlike in the other table, or is "
                + "268435447 or between (none of the three).", FaultTest::two);
        Kit.says("3 its chain comes to a free cluster", FaultTest::freeCluster);
        Kit.says("or to one that a chain before, or itself, has", FaultTest::crossed);
        Kit.says("(or its beginning is no cluster)", FaultTest::beginnings);
        Kit.says("A DIRECTORY is a chain of clusters", FaultTest::longestChain);
        Kit.says("A DIRECTORY is a chain of clusters full of SLOTS of 32 bytes", FaultTest::manyClusters);
        Kit.says("4 the slot is not as told, or a PART without what belongs to it (a label has no parts), or \".\" or \"..\" is "
                + "missing or wrong", FaultTest::four);
        Kit.says("5 its name, or short name, is that of an entry before", FaultTest::five);
        Kit.says("3 a file's chain, likewise", FaultTest::fileChains);
        Kit.says("or its clusters are not as many as its size wants (0: its first cluster is 0; else size / (512 * C), up)",
                FaultTest::sizes);
        Kit.says("At the end: 6 a cluster is not free and in no chain.", FaultTest::lost);
        Kit.says("SOUND is a table volume without a FAULT; the first of:", FaultTest::order);
        Kit.says("then by slots, in order", FaultTest::slotsInOrder);
        Kit.says("a directory's turn comes in the order of the items (so the root's all come first)", FaultTest::turns);
        Kit.end();
    }

    private static void answers() {
        Run x = new Run(256);
        Kit.due("a new object", x.fault(), 1);
        x.format(2, 8, 2, 0);
        Kit.due("formatted", x.fault(), 0);
        Kit.due("asked again", x.fault(), 0);
        x.poke(8, 200, 1);
        Kit.due("poked", x.fault(), 2);
        Kit.due("asked again", x.fault(), 2);
        x.poke(8, 200, 0);
        Kit.due("poked back", x.fault(), 0);
        x.poke(8, 200, 1);
        x.format(2, 8, 2, 0);
        Kit.due("formatted again", x.fault(), 0);
        for (int fault = 1; fault <= 6; fault++) {
            Run y = withFault(fault);
            Kit.due("fault", y.fault(), fault);
            Kit.throwsDue("items", y::items, Kit.STATE);
        }
    }

    static Run withFault(int fault) {
        Run x = SlotTest.base();
        switch (fault) {
            case 1: x.poke(0, 50, 0); break;
            case 2: x.poke(9, 4 * 124, 1); break;
            case 3: x.poke(ROOT, 64 + 26, 50); break;
            case 4: x.poke(ROOT, 32 + 24, 0); break;
            case 5: Kit.poke(x, ROOT, 32, 4, 0x20524944); break;
            default: Kit.link(x, 124, 268435455);
        }
        return x;
    }

    private static void one() {
        Run x = SlotTest.base();
        Kit.faults(x, 0, 11, 1, 1, 1);
        Kit.faults(x, 0, 510, 1, 1, 0);
        // with anything else
        for (int fault = 2; fault <= 6; fault++) {
            Kit.faults(withFault(fault), 0, 44, 1, 1, 0);
        }
    }

    private static void two() {
        Run x = SlotTest.base();
        for (int entry : new int[] {0, 1, 2, 3, 5, 60, 124}) {
            Kit.linkFaults(x, entry, 2, 1, 125, 268435447);
            Kit.faults(x, 8, 4 * entry + 3, 1, 2, 0xF0);
            Kit.faults(x, 9, 4 * entry + 3, 1, 2, 0xF0);
        }
        for (int fault = 3; fault <= 6; fault++) {
            Kit.linkFaults(withFault(fault), 60, 2, 1);
        }
    }

    /** FILE has clusters 4 and 5, DIR 3, SUB 6. */
    private static void freeCluster() {
        Run x = SlotTest.base();
        for (int cluster : new int[] {2, 3, 6}) {
            Kit.linkFaults(x, cluster, 3, 0, 7, 50, 124);
        }
        // behind its second cluster
        Run y = x.fork();
        Kit.link(y, 3, 7);
        Kit.link(y, 7, 268435448);
        Kit.due("two clusters", y.fault(), 0);
        Kit.linkFaults(y, 7, 3, 0, 8);
    }

    private static void crossed() {
        Run x = SlotTest.base();
        // itself, the root's, the file's, another directory's
        Kit.linkFaults(x, 2, 3, 2, 3, 4, 5);
        Kit.linkFaults(x, 3, 3, 2, 3, 4, 5);
        Kit.linkFaults(x, 6, 3, 2, 3, 4, 5, 6);
        // SUB's turn comes behind that of DIR, which may have its cluster first
        Kit.linkFaults(x, 3, 3, 6);
        Run y = x.fork();
        Kit.link(y, 3, 7);
        Kit.link(y, 7, 8);
        Kit.link(y, 8, 268435455);
        Kit.due("three clusters", y.fault(), 0);
        Kit.linkFaults(y, 8, 3, 3, 7, 8);
        // two directories with the same beginning
        Kit.faults(x, DIR, 64 + 26, 1, 3, 3);
    }

    private static void beginnings() {
        Run x = SlotTest.base();
        Kit.faults(x, ROOT, 64 + 26, 2, 3, 0, 1, 2, 4, 5, 50, 125, 126, 256 + 3, 65535);
        Kit.faults(x, ROOT, 64 + 20, 2, 3, 1, 256, 32768, 65535);
        Kit.faults(x, DIR, 64 + 26, 2, 3, 0, 1, 2, 3, 125);
        Kit.faults(x, DIR, 64 + 20, 2, 3, 1, 32768);
        // a cluster that is not the first of its chain: the points in it are those of another one
        Kit.faults(x, ROOT, 64 + 26, 1, 4, 6);
    }

    /** A root of as many clusters as a chain can have; its slots are looked at to the last one. */
    private static void longestChain() {
        Run x = new Run(256);
        Kit.due("clusters", x.format(8, 64, 1, 0), 23);
        Kit.makeFile(x, "F");
        // each 32nd byte of these is 229, so that the file is full of empty slots
        for (int i = 0; i < 22 * 16; i++) {
            x.grow(0, 256, 229);
        }
        // the file's clusters become the root's, whose own one becomes free
        x.poke(0, 44, 3);
        Kit.poke(x, 64, 8, 4, 0);
        Kit.due("empty slots", x.fault(), 0);
        Kit.due("no items", x.items(), 0);
        Kit.due("free", x.free(), 1);
        int last = 65 + 23 * 8 - 1;
        Kit.faults(x, last, 480, 1, 4, 'a');
        Kit.faults(x, last, 480, 1, 0, 0, 229);
        Kit.faults(x, 64, 4 * 24, 4, 3, 3, 10, 24);
        Run all = x.fork();
        all.poke(65, 0, 229);
        Kit.poke(all, 64, 8, 4, 268435455);
        Kit.poke(all, 64, 4 * 24, 4, 2);
        Kit.due("all clusters", all.fault(), 0);
        Kit.due("none is free", all.free(), 0);
        Kit.faults(all, 64, 8, 4, 3, 2, 3, 24);
    }

    /** The same for a hundred small clusters, with an entry in the very last slot. */
    private static void manyClusters() {
        Run x = new Run(256);
        Kit.due("clusters", x.format(2, 8, 1, 0), 123);
        Kit.makeFile(x, "F");
        for (int i = 0; i < 100 * 4; i++) {
            x.grow(0, 256, 229);
        }
        x.poke(0, 44, 3);
        Kit.poke(x, 8, 8, 4, 0);
        int last = 9 + 101 * 2 - 1;
        String entry = "LAST       \40\0\0\0\0\0\0\0\0\0\0\0\0\41\0\0\0\0\0\0\0";
        for (int i = 0; i < 32; i++) {
            x.poke(last, 480 + i, entry.charAt(i));
        }
        Kit.due("fault", x.fault(), 0);
        Kit.due("items", x.items(), 1);
        Kit.due("name", Kit.nameOf(x, 0), "LAST");
        Kit.due("a byte of it", Kit.faultWith(x, last, 480 + 24, 1, 0), 4);
        Kit.due("the first empty slots", Kit.makeFile(x, "G"), 0);
        Kit.due("two", x.items(), 2);
    }

    private static void four() {
        Run x = SlotTest.base();
        // a slot; a part before an empty slot, the end, a label; the points
        Kit.faults(x, ROOT, 32 + 11, 1, 4, 64, 128);
        Kit.faults(x, ROOT, 128, 1, 4, 229, 0);
        Kit.faults(x, ROOT, 128 + 11, 1, 4, 8);
        Kit.faults(x, DIR, 0, 1, 4, 229, 0, 'A');
        Kit.faults(x, DIR, 32, 1, 4, 229, 0, 'A');
        Kit.faults(x, SUB, 0, 1, 4, 229, 0, 'A');
        Kit.faults(x, SUB, 33, 1, 4, ' ');
        // a label has no parts, if it is the only one, too
        Run y = x.fork();
        y.poke(ROOT, 0, 229);
        Kit.faults(y, ROOT, 128 + 11, 1, 4, 8, 40);
        y.poke(ROOT, 96, 229);
        Kit.faults(y, ROOT, 128 + 11, 1, 0, 8, 40);
        // a part in the last slot of a chain
        Run full = new Run(256);
        full.format(2, 8, 2, 0);
        for (int i = 0; i < 30; i++) {
            Kit.makeFile(full, "F" + i);
        }
        Kit.makeFile(full, "a b");
        Kit.due("a full cluster", full.fault(), 0);
        Kit.faults(full, 11, 480 + 11, 1, 4, 15, 79);
        Kit.faults(full, 11, 480, 1, 4, 0, 229);
    }

    private static void five() {
        Run x = new Run(256);
        x.format(2, 8, 2, 0);
        Kit.makeFile(x, "AB");
        Kit.makeFile(x, "AC");
        Kit.makeFile(x, "ad");
        Kit.faults(x, ROOT, 1, 1, 5, 'C');
        Kit.faults(x, ROOT, 33, 1, 5, 'B');
        // its name: ad becomes ab
        Kit.faults(x, ROOT, 64 + 3, 1, 5, 'b', 'B', 'c', 'C');
        Kit.faults(x, ROOT, 64 + 3, 1, 0, 'e', 'E');
        // of an entry before that is empty now
        Run y = x.fork();
        y.poke(ROOT, 0, 229);
        Kit.faults(y, ROOT, 33, 1, 0, 'B');
    }

    private static void fileChains() {
        Run x = SlotTest.base();
        Kit.linkFaults(x, 4, 3, 0, 2, 4, 7, 50, 124);
        Kit.linkFaults(x, 5, 3, 0, 2, 4, 5, 7, 50);
        // of directories whose turn comes later: then these find it taken
        Kit.linkFaults(x, 4, 3, 3, 6);
        Kit.faults(x, ROOT, 32 + 26, 2, 3, 0, 1, 2, 3, 5, 6, 50, 125, 256 + 4, 65535);
        Kit.faults(x, ROOT, 32 + 20, 2, 3, 1, 256, 32768, 65535);
        // two files with the same chain
        Kit.makeFile(x, "G");
        x.poke(ROOT, 160 + 26, 4);
        Kit.poke(x, ROOT, 160 + 28, 4, 2000);
        Kit.due("the same chain", x.fault(), 3);
        x.poke(ROOT, 160 + 26, 5);
        Kit.poke(x, ROOT, 160 + 28, 4, 1000);
        Kit.due("the end of it", x.fault(), 3);
    }

    private static void sizes() {
        for (int c = 2; c <= 8; c *= 2) {
            int bytes = 512 * c;
            Run x = new Run(256);
            x.format(c, 8, 2, 0);
            Kit.makeFile(x, "F");
            Kit.faults(x, 10, 28, 4, 0, 0);
            Kit.faults(x, 10, 28, 4, 3, 1, bytes, 1L << 31);
            // no size, so no cluster, not even one of its own
            Kit.faults(x, 10, 26, 1, 3, 1, 2, 3, 255);
            Kit.faults(x, 10, 20, 2, 3, 1, 32768);
            Run own = x.fork();
            Kit.link(own, 3, 268435455);
            own.poke(10, 26, 3);
            Kit.due("a cluster without a size", own.fault(), 3);
            x.grow(0, bytes, 0);
            Kit.faults(x, 10, 28, 4, 0, 1, 2, bytes - 1, bytes);
            Kit.faults(x, 10, 28, 4, 3, 0, bytes + 1, 2 * bytes, bytes + 65536, bytes + (1L << 31), -1);
            x.grow(0, 1, 0);
            Kit.faults(x, 10, 28, 4, 0, bytes + 1, 2 * bytes - 1, 2 * bytes);
            Kit.faults(x, 10, 28, 4, 3, 0, 1, bytes - 1, bytes, 2 * bytes + 1);
            // all clusters
            int free = x.free();
            x.grow(0, (free + 1) * bytes - 1, 0);
            Kit.due("none is free", x.free(), 0);
            Kit.sound(x);
            Kit.faults(x, 10, 28, 4, 3, (free + 2) * bytes + 1L, (free + 1) * bytes);
            Kit.faults(x, 10, 28, 4, 0, (free + 1) * bytes + 1L);
        }
    }

    private static void lost() {
        Run x = SlotTest.base();
        Kit.linkFaults(x, 7, 6, 2, 4, 7, 8, 124, 268435448, 268435455);
        Kit.linkFaults(x, 124, 6, 2, 124, 268435455);
        Kit.linkFaults(x, 124, 0, 0, 15L << 28);
        // what no slot has any more
        Kit.faults(x, ROOT, 32, 1, 6, 229, 0);
        Kit.faults(x, ROOT, 64, 1, 6, 229, 0);
        Kit.faults(x, DIR, 64, 1, 6, 229, 0);
        // cluster 2, if the root is another one
        Run root = new Run(256);
        root.format(2, 8, 2, 0);
        root.poke(0, 44, 124);
        Kit.link(root, 124, 268435455);
        Kit.due("cluster 2", root.fault(), 6);
        Kit.link(root, 2, 0);
        Kit.due("cluster 2, free", root.fault(), 0);
        // with any other fault, that one is the first
        for (int fault = 1; fault <= 5; fault++) {
            Run y = withFault(fault);
            Kit.link(y, 123, 268435455);
            Kit.due("fault", y.fault(), fault);
        }
    }

    private static void order() {
        // each hides what comes behind it
        Run x = SlotTest.base();
        Kit.link(x, 124, 268435455);
        Kit.due("6 alone", x.fault(), 6);
        x.poke(SUB, 0, 'A');
        Kit.due("4 in SUB", x.fault(), 4);
        Kit.link(x, 6, 0);
        Kit.due("3 of SUB's chain comes before it", x.fault(), 3);
        x.poke(DIR, 3 * 32 + 12, 1);
        Kit.due("4 in DIR comes before it", x.fault(), 4);
        x.poke(ROOT, 32 + 28, 0);
        x.poke(ROOT, 32 + 29, 0);
        Kit.due("3 of FILE comes before it", x.fault(), 3);
        x.poke(ROOT, 3 * 32 + 12, 1);
        Kit.due("4 in a later slot of the root does not", x.fault(), 3);
        x.poke(ROOT, 31, 1);
        Kit.due("4 in an earlier slot does", x.fault(), 4);
        Kit.link(x, 2, 0);
        Kit.due("3 of the root's chain", x.fault(), 3);
        x.poke(9, 4 * 60, 1);
        Kit.due("2", x.fault(), 2);
        x.poke(0, 50, 1);
        Kit.due("1", x.fault(), 1);
    }

    /** In one slot 4 comes before 5, and 5 before 3; all of a slot comes before the next one. */
    private static void slotsInOrder() {
        Run x = new Run(256);
        x.format(2, 8, 2, 0);
        Kit.makeFile(x, "AB");
        Kit.makeFile(x, "AC");
        Kit.makeFile(x, "AD");
        x.poke(ROOT, 32 + 28, 1);
        Kit.due("3", x.fault(), 3);
        x.poke(ROOT, 64 + 24, 0);
        Kit.due("4 in the next one", x.fault(), 3);
        x.poke(ROOT, 32 + 1, 'B');
        Kit.due("5", x.fault(), 5);
        x.poke(ROOT, 32 + 24, 0);
        Kit.due("4", x.fault(), 4);
        x.poke(ROOT, 28, 1);
        Kit.due("3 of the slot before", x.fault(), 3);
        // a part that is not as told stands before the entry that it belongs to, but behind the file before
        Run y = new Run(256);
        y.format(2, 8, 2, 0);
        Kit.makeFile(y, "A");
        Kit.makeFile(y, "b");
        y.poke(ROOT, 64 + 28, 1);
        Kit.due("3 of b", y.fault(), 3);
        y.poke(ROOT, 32 + 12, 1);
        Kit.due("4 of its part", y.fault(), 4);
        y.poke(ROOT, 28, 1);
        Kit.due("3 of A", y.fault(), 3);
        // a chain that is taken by the first is the second's fault
        Run z = new Run(256);
        z.format(2, 8, 2, 0);
        Kit.makeFile(z, "A");
        Kit.makeFile(z, "B");
        z.grow(0, 1, 0);
        z.poke(ROOT, 32 + 26, 3);
        z.poke(ROOT, 32 + 28, 1);
        Kit.due("3 of B", z.fault(), 3);
        z.poke(ROOT, 32, 'A');
        Kit.due("5 of B", z.fault(), 5);
    }

    /** A directory's turn comes behind all of the one that has it, in the order of the items. */
    private static void turns() {
        Run x = new Run(256);
        x.format(2, 8, 2, 0);
        Kit.makeDirectory(x, "A");
        Kit.makeDirectory(x, "B");
        x.enter(0);
        Kit.makeDirectory(x, "AA");
        x.up();
        // A is cluster 3 (sector 12), B 4 (14), AA 5 (16)
        Kit.link(x, 5, 0);
        Kit.due("AA's chain", x.fault(), 3);
        x.poke(14, 0, 'X');
        Kit.due("B comes before AA", x.fault(), 4);
        x.poke(14, 0, '.');
        Kit.link(x, 4, 0);
        Kit.link(x, 5, 268435455);
        x.poke(16, 0, 'X');
        Kit.due("B's chain comes before what AA has", x.fault(), 3);
        x.poke(12, 0, 'X');
        Kit.due("what A has comes before B's chain", x.fault(), 4);
        x.poke(12, 0, '.');
        x.poke(16, 0, '.');
        Kit.link(x, 4, 268435455);
        Kit.due("as before", x.fault(), 0);
        Kit.makeFile(x, "C");
        x.poke(ROOT, 64 + 28, 1);
        x.poke(12, 0, 'X');
        Kit.due("the root's slots come before what A has", x.fault(), 3);
        // a directory's chain is looked at when its turn comes, not with its slot
        Run y = new Run(256);
        y.format(2, 8, 2, 0);
        Kit.makeDirectory(y, "A");
        Kit.makeFile(y, "C");
        Kit.link(y, 3, 0);
        Kit.due("A's chain", y.fault(), 3);
        y.poke(ROOT, 32 + 24, 0);
        Kit.due("4 in the slot behind A's", y.fault(), 4);
    }

    private FaultTest() {
    }
}
