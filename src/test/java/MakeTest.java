import java.util.Arrays;

/** Promise 16 make, with what "HOW IT IS CHANGED" tells of names, slots and clusters. */
public final class MakeTest {
    private static final int ROOT = 10;

    public static void main(String[] args) {
        entryBytes();
        directoryBytes();
        names();
        shortNames();
        tails();
        refused();
        slots();
        stale();
        addedClusters();
        noRoom();
        otherRoot();
        Kit.end();
    }

    private static TableVolumes made() {
        TableVolumes x = new TableVolumes(256);
        x.format(2, 8, 2, 0);
        return x;
    }

    private static void bytes(TableVolumes x, int sector, int at, int... want) {
        for (int i = 0; i < want.length; i++) {
            Kit.due("byte " + (at + i) + " of sector " + sector, x.byteAt(sector, at + i), want[i]);
        }
    }

    private static void entryBytes() {
        TableVolumes x = made();
        Kit.due("number", Kit.makeFile(x, "AB.C"), 0);
        bytes(x, ROOT, 0, 'A', 'B', ' ', ' ', ' ', ' ', ' ', ' ', 'C', ' ', ' ', 32, 0, 0, 0, 0, 0, 0, 0, 0, 0, 0, 0, 0, 33, 0,
                0, 0, 0, 0, 0, 0, 0);
        Kit.due("number", Kit.makeFile(x, "fourteen\u65e5units"), 1);
        // LF: the short name is FOURTE~1, of which the sum is taken by hand
        int sum = 0;
        for (char c : "FOURTE~1   ".toCharArray()) {
            sum = ((sum & 1) * 128 + sum / 2 + c) & 255;
        }
        bytes(x, ROOT, 32, 66, 's', 0, 0, 0, 255, 255, 255, 255, 255, 255, 15, 0, sum, 255, 255, 255, 255, 255, 255, 255, 255,
                255, 255, 255, 255, 0, 0, 255, 255, 255, 255);
        bytes(x, ROOT, 64, 1, 'f', 0, 'o', 0, 'u', 0, 'r', 0, 't', 0, 15, 0, sum, 'e', 0, 'e', 0, 'n', 0, 0xE5, 0x65, 'u', 0,
                'n', 0, 0, 0, 'i', 0, 't', 0);
        bytes(x, ROOT, 96, 'F', 'O', 'U', 'R', 'T', 'E', '~', '1', ' ', ' ', ' ', 32, 0, 0, 0, 0, 0, 0, 0, 0, 0, 0, 0, 0, 33, 0,
                0, 0, 0, 0, 0, 0, 0);
        Kit.due("no cluster is taken", x.free(), 122);
        Kit.due("fault", x.fault(), 0);
    }

    private static void directoryBytes() {
        TableVolumes x = made();
        Kit.due("number", Kit.makeDirectory(x, "D"), 0);
        bytes(x, ROOT, 0, 'D', ' ', ' ', ' ', ' ', ' ', ' ', ' ', ' ', ' ', ' ', 48, 0, 0, 0, 0, 0, 0, 0, 0, 0, 0, 0, 0, 33, 0,
                3, 0, 0, 0, 0, 0, 0);
        bytes(x, 12, 0, '.', ' ', ' ', ' ', ' ', ' ', ' ', ' ', ' ', ' ', ' ', 16, 0, 0, 0, 0, 0, 0, 0, 0, 0, 0, 0, 0, 33, 0, 3,
                0, 0, 0, 0, 0);
        bytes(x, 12, 32, '.', '.', ' ', ' ', ' ', ' ', ' ', ' ', ' ', ' ', ' ', 16, 0, 0, 0, 0, 0, 0, 0, 0, 0, 0, 0, 0, 33, 0, 0,
                0, 0, 0, 0, 0, 0);
        for (int table = 8; table <= 9; table++) {
            bytes(x, table, 12, 255, 255, 255, 15, 0, 0, 0, 0);
        }
        x.enter(0);
        Kit.makeDirectory(x, "E");
        bytes(x, 14, 26, 4, 0);
        bytes(x, 14, 32 + 26, 3, 0);
        Kit.due("fault", x.fault(), 0);
        // a cluster that had something is filled with 0, and the highest four bits stay
        x.poke(8, 23, 0xA0);
        x.poke(9, 23, 0xA0);
        x.poke(16, 100, 77);
        x.poke(17, 511, 77);
        Kit.makeDirectory(x, "F");
        for (int i = 64; i < 1024; i++) {
            Kit.due("a new cluster's byte " + i, x.byteAt(16 + i / 512, i % 512), 0);
        }
        for (int table = 8; table <= 9; table++) {
            bytes(x, table, 20, 255, 255, 255, 0xAF);
        }
        Kit.due("fault", x.fault(), 0);
    }

    /** How many parts names get, and that they are read as they were given. */
    private static void names() {
        TableVolumes x = made();
        String[] none = {"A", "ABCDEFGH", "ABCDEFGH.IJK", "A.B", "0", "!#$%&'()", "-@^_`{}~.~~~", "A~1"};
        for (String name : none) {
            int k = Kit.makeFile(x, name);
            Kit.due("parts of " + name, x.about(k, 6), 0);
            Kit.due("name", Kit.nameOf(x, k), name);
        }
        String[] one = {"b", "Ab", "ABCDEFGHI", "ABCDEFGH.IJKL", "A.B.C", ".A", "A B", " A", "A+", "A,", "A;", "A=", "[", "]",
            "\u00c4", "..A", "A..B", "A .B", "A. B", "thirteen unit"};
        for (String name : one) {
            int k = Kit.makeFile(x, name);
            Kit.due("parts of " + name, x.about(k, 6), 1);
            Kit.due("name", Kit.nameOf(x, k), name);
        }
        int[][] lengths = {{14, 2}, {26, 2}, {27, 3}, {247, 19}, {248, 20}, {254, 20}, {255, 20}};
        TableVolumes y = made();
        for (int[] l : lengths) {
            int k = Kit.makeFile(y, "n".repeat(l[0]));
            Kit.due("parts of " + l[0], y.about(k, 6), l[1]);
            Kit.due("name", Kit.nameOf(y, k), "n".repeat(l[0]));
            Kit.due("fault", y.fault(), 0);
        }
        x.poke(7, 0, 0);
        y.poke(7, 0, 0);
        Kit.due("sound", x.fault(), 0);
        Kit.due("sound", y.fault(), 0);
    }

    private static String shortFor(String name) {
        TableVolumes x = made();
        int k = Kit.makeFile(x, name);
        return Kit.text(x, ROOT, 32 * (int) x.about(k, 6), 11);
    }

    private static void shortNames() {
        String[][] cases = {
            {"A", "A          "}, {"ABCDEFGH.IJK", "ABCDEFGHIJK"}, {"a", "A~1        "}, {"small.txt", "SMALL~1 TXT"},
            {"A long name.text", "ALONGN~1TEX"}, {"abcdefgh", "ABCDEF~1   "}, {"ABCDEFGHI", "ABCDEF~1   "},
            {".hidden", "HIDDEN~1   "}, {".hid.txt", "HID~1   TXT"}, {"..double", "~1      DOU"}, {"a.b.c", "AB~1    C  "},
            {" .x", "~1      X  "}, {"a+b,c;d", "A_B_C_~1   "}, {"\u00e9t\u00e9.\u65e5x", "_T_~1   _X "},
            {"a.b c", "A~1     BC "}, {"...x", "~1      X  "}, {". x", "X~1        "}, {"a.\u65e5\u65e5\u65e5\u65e5", "A~1     ___"},
            {"x y.z", "XY~1    Z  "}, {"~~", "~~         "}, {"~a", "~A~1       "}, {"a.bcde", "A~1     BCD"},
            {"a.b c d e", "A~1     BCD"}, {"[=]", "___~1      "}, {"ab..cd", "AB~1    CD "}
        };
        for (String[] c : cases) {
            Kit.due("short name of " + c[0], shortFor(c[0]), c[1]);
        }
    }

    private static void tails() {
        TableVolumes x = new TableVolumes(1024);
        x.format(2, 8, 1, 0);
        for (int i = 1; i <= 120; i++) {
            Kit.makeFile(x, "numbered " + i);
        }
        // cluster 2 is sectors 12 and 13; added ones follow, as nothing else takes clusters
        for (int i = 1; i <= 120; i++) {
            String want = i < 10 ? "NUMBER~" + i : i < 100 ? "NUMBE~" + i : "NUMB~" + i;
            Kit.due("tail " + i, Kit.text(x, 12, (2 * i - 1) * 32, 11), want + "   ");
        }
        // the first number that is not there: of a name that went, and not one that another base or extension has
        x.remove(4);
        Kit.makeFile(x, "numbered x");
        Kit.due("number 5 again", Kit.text(x, 12, 9 * 32, 8), "NUMBER~5");
        Kit.makeFile(x, "numbered.ext");
        x.poke(7, 0, 0);
        Kit.due("fault", x.fault(), 0);
        TableVolumes y = made();
        Kit.makeFile(y, "AB~1");
        Kit.makeFile(y, "ab");
        Kit.due("behind a plain name", Kit.text(y, ROOT, 64, 11), "AB~2       ");
        Kit.makeFile(y, "ab.c");
        Kit.due("another extension", Kit.text(y, ROOT, 128, 11), "AB~1    C  ");
        Kit.makeFile(y, "ab.cde");
        Kit.makeFile(y, "ab.cdf");
        Kit.due("another extension by its last letter", Kit.text(y, ROOT, 32 * 8, 11), "AB~1    CDF");
        Kit.makeFile(y, "ab.cdfg");
        Kit.due("the same extension", Kit.text(y, ROOT, 32 * 10, 11), "AB~2    CDF");
        Kit.makeFile(y, "abcdef 1");
        Kit.makeFile(y, "ABCDEF~2");
        Kit.makeFile(y, "abcdef 3");
        Kit.due("a number that is taken", Kit.text(y, ROOT, 32 * 15, 11), "ABCDEF~3   ");
        // a label is no item: its short name may be there again
        TableVolumes z = new TableVolumes(256);
        Kit.tape(z, "AB~1");
        z.format(2, 8, 2, 0);
        Kit.makeFile(z, "ab");
        Kit.due("as the label", Kit.text(z, ROOT, 64, 11), "AB~1       ");
        Kit.due("fault", z.fault(), 0);
    }

    private static void refused() {
        TableVolumes x = made();
        Kit.makeFile(x, "README");
        Kit.makeFile(x, "Long name here");
        Kit.makeDirectory(x, "D");
        int[] kept = Kit.image(x, 256);
        String[] bad = {"", ".", "..", "...", "a.", "a ", " ", "a\"", "a*b", "a/b", "a:b", "a<b", "a>b", "a?b", "a\\b", "a|b", "\u007f",
            "a\u007fb", "a\u0000b", "\u0000", "\u001f", "\ud800", "a\udbffb", "\udc00", "\udfffa", "\ufffe", "\uffff", "x".repeat(256),
            "x".repeat(300), "README", "readme", "ReadMe", "LONG NAME HERE", "long name here", "d", "LONGNA~1"};
        for (String name : bad) {
            Kit.due("make(false) of " + name, Kit.makeThrows(x, name, false), Kit.ARGUMENT);
            Kit.due("make(true) of " + name, Kit.makeThrows(x, name, true), Kit.ARGUMENT);
        }
        Kit.tape(x, "\0A\0");
        Kit.throwsDue("an odd number of bytes", () -> x.make(false), Kit.ARGUMENT);
        Kit.tape(x, "\0");
        Kit.throwsDue("one byte", () -> x.make(false), Kit.ARGUMENT);
        for (int i = 0; i < 204; i++) {
            x.feed(0x410041, 0x410041, 0x410041, 0x410041, 0x410041);
            x.end(20);
        }
        Kit.throwsDue("a long tape", () -> x.make(false), Kit.ARGUMENT);
        Kit.holds("nothing is changed", Arrays.equals(kept, Kit.image(x, 256)));
        // not alike, and no short name as shown
        Kit.due("longna~1", Kit.makeFile(x, "longna~1"), 3);
        Kit.due("its short name", Kit.text(x, ROOT, 32 * 6, 8), "LONGNA~2");
        x.enter(2);
        Kit.due("another directory", Kit.makeFile(x, "README"), 0);
        x.poke(7, 0, 0);
        Kit.due("fault", x.fault(), 0);
    }

    private static void slots() {
        TableVolumes x = made();
        for (int i = 0; i < 6; i++) {
            Kit.makeFile(x, "F" + i);
        }
        x.remove(1);
        x.remove(2);
        x.remove(2);
        // slots 1, 3 and 4 are empty; F0, F2 and F5 are left
        Kit.due("items", x.items(), 3);
        Kit.due("two slots come to 3 and 4", Kit.makeFile(x, "a b"), 2);
        Kit.due("part", x.byteAt(ROOT, 96), 65);
        Kit.due("one slot comes to 1", Kit.makeFile(x, "G"), 1);
        Kit.due("names", Kit.nameOf(x, 0) + Kit.nameOf(x, 1) + Kit.nameOf(x, 2) + Kit.nameOf(x, 3) + Kit.nameOf(x, 4), "F0GF2a bF5");
        Kit.due("then the end", Kit.makeFile(x, "H"), 5);
        // empty slots at the end and those that are not looked at go together
        x.remove(5);
        x.remove(4);
        Kit.due("two empty slots and one more", Kit.makeFile(x, "three slots want this"), 4);
        Kit.due("first part", x.byteAt(ROOT, 32 * 5), 66);
        Kit.due("the entry", Kit.text(x, ROOT, 32 * 7, 8), "THREES~1");
        // clusters are taken lowest first
        TableVolumes y = made();
        Kit.makeDirectory(y, "A");
        Kit.makeDirectory(y, "B");
        Kit.makeDirectory(y, "C");
        y.remove(0);
        y.remove(1);
        Kit.makeDirectory(y, "E");
        Kit.due("first cluster of E", y.byteAt(ROOT, 26), 3);
        Kit.makeDirectory(y, "F");
        Kit.due("first cluster of F", y.byteAt(ROOT, 64 + 26), 5);
        y.poke(7, 0, 0);
        Kit.due("fault", y.fault(), 0);
    }

    /** What stands in slots that were not looked at. */
    private static void stale() {
        TableVolumes x = made();
        for (int i = 0; i < 1024; i++) {
            if (i % 32 != 0 || i > 64) {
                x.poke(ROOT + i / 512, i % 512, 0xEE);
            }
        }
        Kit.due("not looked at", x.fault(), 0);
        Kit.due("items", x.items(), 0);
        Kit.makeFile(x, "A");
        bytes(x, ROOT, 0, 'A', ' ', ' ', ' ', ' ', ' ', ' ', ' ', ' ', ' ', ' ', 32, 0, 0, 0, 0, 0, 0, 0, 0, 0, 0, 0, 0, 33, 0,
                0, 0, 0, 0, 0, 0, 0, 0xEE);
        Kit.makeFile(x, "a b");
        // slots 1 and 2, and the mark of slot 3
        bytes(x, ROOT, 96, 0, 0xEE);
        bytes(x, ROOT, 128, 0xEE, 0xEE);
        Kit.due("items", x.items(), 2);
        x.poke(7, 0, 0);
        Kit.due("fault", x.fault(), 0);
        // an entry in empty slots leaves the end as it is
        x.remove(0);
        Kit.makeFile(x, "B");
        bytes(x, ROOT, 96, 0, 0xEE);
        bytes(x, ROOT, 128, 0xEE, 0xEE);
        // up to the last slot: none is behind it
        for (int i = 3; i < 32; i++) {
            Kit.makeFile(x, "F" + i);
        }
        Kit.due("items", x.items(), 31);
        Kit.due("no cluster more", x.free(), 122);
        Kit.due("fault", x.fault(), 0);
    }

    private static void addedClusters() {
        TableVolumes x = made();
        for (int i = 0; i < 31; i++) {
            Kit.makeFile(x, "F" + i);
        }
        // one slot is left: two of three slots come to the new cluster, behind the new directory's own
        Kit.due("number", Kit.makeDirectory(x, "three slots want this"), 31);
        Kit.due("free", x.free(), 120);
        Kit.due("first part", x.byteAt(ROOT + 1, 480), 66);
        Kit.due("second part, in cluster 4", x.byteAt(14, 0), 1);
        Kit.due("entry", Kit.text(x, 14, 32, 8), "THREES~1");
        Kit.due("its cluster", x.byteAt(14, 32 + 26), 3);
        Kit.due("the root's chain", Kit.number(x, 8, 8, 4), 4);
        Kit.due("its end", Kit.number(x, 9, 16, 4), 268435455);
        for (int i = 64; i < 1024; i++) {
            Kit.due("the rest of the new cluster", x.byteAt(14 + i / 512, i % 512), 0);
        }
        x.poke(7, 0, 0);
        Kit.due("fault", x.fault(), 0);
        // a directory that is not the root, full with points and 30 more
        Kit.due("enter", x.enter(31), 0);
        for (int i = 0; i < 30; i++) {
            Kit.makeFile(x, "G" + i);
        }
        Kit.due("free", x.free(), 120);
        Kit.makeFile(x, "y".repeat(255));
        Kit.due("free", x.free(), 119);
        Kit.due("chain", Kit.number(x, 8, 12, 4), 5);
        Kit.due("first part", x.byteAt(16, 0), 84);
        x.up();
        x.poke(7, 0, 0);
        Kit.due("fault", x.fault(), 0);
        // highest four bits of the chain's old end stay
        TableVolumes y = made();
        y.poke(8, 11, 0x5F);
        y.poke(9, 11, 0x5F);
        y.poke(8, 8, 0xF8);
        y.poke(9, 8, 0xF8);
        for (int i = 0; i < 33; i++) {
            Kit.makeFile(y, "F" + i);
        }
        Kit.due("the root's entry", Kit.number(y, 8, 8, 4), 0x50000003L);
        Kit.due("alike", Kit.number(y, 9, 8, 4), 0x50000003L);
        Kit.due("fault", y.fault(), 0);
    }

    private static void noRoom() {
        TableVolumes x = new TableVolumes(256);
        x.format(8, 64, 2, 0);
        Kit.makeFile(x, "FULL");
        x.grow(0, 22 * 4096, 0);
        Kit.due("free", x.free(), 0);
        Kit.due("a file in the root has room", Kit.makeFile(x, "A"), 1);
        int[] kept = Kit.image(x, 256);
        Kit.due("a directory has none", Kit.makeThrows(x, "D", true), Kit.ROOM);
        Kit.due("a wrong name comes first", Kit.makeThrows(x, "a", true), Kit.ARGUMENT);
        Kit.holds("nothing is changed", Arrays.equals(kept, Kit.image(x, 256)));
        for (int i = 2; i < 128; i++) {
            Kit.makeFile(x, "F" + i);
        }
        Kit.due("no slot more", Kit.makeThrows(x, "G", false), Kit.ROOM);
        x.cut(0, 21 * 4096);
        Kit.due("a directory wants two clusters", Kit.makeThrows(x, "D", true), Kit.ROOM);
        Kit.due("nothing was taken", x.free(), 1);
        Kit.due("a file wants one", Kit.makeFile(x, "G"), 128);
        Kit.due("nothing is free", x.free(), 0);
        x.poke(7, 0, 0);
        Kit.due("fault", x.fault(), 0);
        // with parts: the last slot alone is not enough
        TableVolumes y = new TableVolumes(256);
        y.format(8, 64, 2, 0);
        Kit.makeFile(y, "FULL");
        y.grow(0, 22 * 4096, 0);
        for (int i = 1; i < 127; i++) {
            Kit.makeFile(y, "F" + i);
        }
        Kit.due("two slots", Kit.makeThrows(y, "two", false), Kit.ROOM);
        Kit.due("one slot", Kit.makeFile(y, "ONE"), 127);
    }

    /** A root that is not cluster 2, which is taken as any other one. */
    private static void otherRoot() {
        TableVolumes x = made();
        link(x, 5, 268435455);
        link(x, 2, 0);
        x.poke(0, 44, 5);
        Kit.due("fault", x.fault(), 0);
        Kit.makeDirectory(x, "D");
        Kit.due("its slot", Kit.text(x, 16, 0, 11), "D          ");
        Kit.due("its cluster", x.byteAt(16, 26), 2);
        Kit.due("\".\"", Kit.number(x, 10, 26, 2), 2);
        Kit.due("\"..\"", Kit.number(x, 10, 32 + 26, 2), 0);
        Kit.due("enter", x.enter(0), 0);
        Kit.makeDirectory(x, "E");
        Kit.due("\"..\"", Kit.number(x, 12, 32 + 26, 2), 2);
        Kit.due("enter", x.enter(0), 0);
        Kit.holds("up", x.up());
        Kit.holds("up", x.up());
        Kit.holds("up", !x.up());
        x.poke(7, 0, 0);
        Kit.due("fault", x.fault(), 0);
        x.poke(16, 0, 229);
        Kit.due("cluster 2 in no chain", x.fault(), 6);
    }

    private static void link(TableVolumes x, int cluster, long value) {
        Kit.poke(x, 8, 4 * cluster, 4, value);
        Kit.poke(x, 9, 4 * cluster, 4, value);
    }

    private MakeTest() {
    }
}
