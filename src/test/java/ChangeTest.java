import java.util.Arrays;

/** What the document tells under HOW IT IS CHANGED. */
public final class ChangeTest {
    private static final int ROOT = 10;
    private static final int END = 268435455;

    public static void main(String[] args) {
        Kit.says("All these calls want a sound table volume.", ChangeTest::wantSound);
        Kit.says("The lowest free cluster is taken first", ChangeTest::lowest);
        Kit.says("a new directory's own ahead of those that its entry wants", ChangeTest::ownFirst);
        Kit.says("one that is taken is filled with 0", ChangeTest::filled);
        Kit.says("tables are changed alike", ChangeTest::tablesAlike);
        Kit.says("the sectors 1 and 6 are never changed", ChangeTest::sectorsOneAndSix);
        Kit.says("Whether there is room is looked at before anything is changed.", ChangeTest::roomFirst);
        Kit.says("268435448 or more the chain's end (268435455 is written)", ChangeTest::ends);
        Kit.says("the highest four stay as they are when an entry is changed", ChangeTest::highBits);
        Kit.says("A NAME that is a short name as shown (at most 8 and 3 characters of those above, no small letters) gets no "
                + "parts.", ChangeTest::plainNames);
        Kit.says("Another one gets as many parts as it needs", ChangeTest::partsAsNeeded);
        Kit.says("BASE, of the units before the last point (of all, if there is none, or nothing before it)", ChangeTest::bases);
        Kit.says("blanks and points go, small letters become capitals, what may not stand in a short name becomes _",
                ChangeTest::letters);
        Kit.says("EXTENSION likewise of the units behind the last point (none, if there is none, or nothing before it), of which "
                + "three stay.", ChangeTest::extensions);
        Kit.says("the base's first 7 - (digits of k) characters, ~, k", ChangeTest::tails);
        Kit.says("the first k for which no short name of the directory is the same.", ChangeTest::firstNumber);
        Kit.says("An entry with its parts comes to the first slots, as many as needed one behind another, that are empty or not "
                + "looked at, of the chain", ChangeTest::firstSlots);
        Kit.says("if there are none, clusters are added to the chain until there are", ChangeTest::addedClusters);
        Kit.says("If the slot behind them (in the chain) was not looked at before, its byte 0 becomes 0.", ChangeTest::behind);
        Kit.says("A new directory has one cluster; \".\" and \"..\" have the day of WRITTEN of the new entry, everything else of "
                + "times 0.", ChangeTest::newDirectory);
        Kit.says("A new entry: WRITTEN 1 January 1980, 0:00, all other days 0; at 11 (1) 32 of a file, 48 of a directory; all else "
                + "0.", ChangeTest::newEntry);
        Kit.end();
    }

    /** Tables are sectors 8 and 9; cluster c has two sectors from 10 + 2 * (c - 2) on. */
    private static Run made() {
        Run x = new Run(256);
        x.format(2, 8, 2, 0);
        return x;
    }

    private static int sectorOf(int cluster) {
        return ROOT + 2 * (cluster - 2);
    }

    private static void bytes(Run x, int sector, int at, int... want) {
        for (int i = 0; i < want.length; i++) {
            Kit.due("byte " + (at + i) + " of sector " + sector, x.byteAt(sector, at + i), want[i]);
        }
    }

    private static void entry(Run x, int cluster, long want) {
        Kit.due("entry " + cluster + " of the first table", Kit.number(x, 8, 4 * cluster, 4), want);
        Kit.due("entry " + cluster + " of the second table", Kit.number(x, 9, 4 * cluster, 4), want);
    }

    private static int firstCluster(Run x, int sector, int slot) {
        return (int) Kit.number(x, sector, 32 * slot + 26, 2);
    }

    private static void wantSound() {
        for (int fault = 1; fault <= 6; fault++) {
            Run x = FaultTest.withFault(fault);
            int[] kept = Kit.image(x, 20);
            Kit.due("make", Kit.makeThrows(x, "NEW", false), Kit.STATE);
            Kit.due("make", Kit.makeThrows(x, "NEW", true), Kit.STATE);
            Kit.tape(x, "text");
            Kit.throwsDue("write", () -> x.write(0), Kit.STATE);
            Kit.throwsDue("grow", () -> x.grow(0, 1, 0), Kit.STATE);
            Kit.throwsDue("cut", () -> x.cut(0, 0), Kit.STATE);
            Kit.throwsDue("remove", () -> x.remove(0), Kit.STATE);
            Kit.throwsDue("stamp", () -> x.stamp(0, 2, 33, 0), Kit.STATE);
            Kit.holds("nothing is changed", Arrays.equals(kept, Kit.image(x, 20)));
        }
    }

    private static void lowest() {
        Run x = made();
        for (int i = 0; i < 6; i++) {
            Kit.makeDirectory(x, "D" + i);
            Kit.due("one after the other", firstCluster(x, ROOT, i), 3 + i);
        }
        Kit.makeFile(x, "F");
        // clusters 4, 6 and 8 become free, the highest first
        x.remove(5);
        x.remove(3);
        x.remove(1);
        Kit.due("what a file takes", x.grow(3, 4096, 0), 4096);
        Kit.due("the first", firstCluster(x, ROOT, 6), 4);
        entry(x, 4, 6);
        entry(x, 6, 8);
        entry(x, 8, 9);
        entry(x, 9, END);
        Kit.sound(x);
        // the root is another cluster, and 2 is the lowest
        Run y = made();
        Kit.link(y, 5, END);
        Kit.link(y, 2, 0);
        y.poke(0, 44, 5);
        Kit.makeDirectory(y, "D");
        Kit.due("cluster 2", firstCluster(y, 16, 0), 2);
        // the last cluster is the last to be taken
        Run z = made();
        Kit.makeFile(z, "F");
        Kit.makeFile(z, "G");
        z.grow(0, 121 * 1024, 0);
        entry(z, 123, END);
        Kit.due("one is left", z.free(), 1);
        z.grow(1, 1, 7);
        Kit.due("cluster K + 1", firstCluster(z, ROOT, 1), 124);
        Kit.due("its byte", z.byteAt(254, 0), 7);
        Kit.sound(z);
    }

    private static void ownFirst() {
        Run x = made();
        for (int i = 0; i < 32; i++) {
            Kit.makeFile(x, "F" + i);
        }
        Kit.makeDirectory(x, "D");
        Kit.due("the directory's own", firstCluster(x, sectorOf(4), 0), 3);
        entry(x, 2, 4);
        entry(x, 3, END);
        entry(x, 4, END);
        Kit.sound(x);
    }

    private static void filled() {
        Run x = made();
        Kit.makeFile(x, "F");
        for (int cluster = 3; cluster <= 7; cluster++) {
            for (int at : new int[] {0, 1, 99, 511}) {
                x.poke(sectorOf(cluster), at, 0xEE);
                x.poke(sectorOf(cluster) + 1, at, 0xEE);
            }
        }
        Kit.makeDirectory(x, "D");
        for (int i = 64; i < 1024; i++) {
            Kit.due("byte " + i + " of a directory", x.byteAt(12 + i / 512, i % 512), 0);
        }
        x.grow(0, 1025, 0);
        for (int i = 1; i < 1024; i++) {
            Kit.due("byte " + i + " behind a file", x.byteAt(16 + i / 512, i % 512), 0);
        }
        for (int i = 0; i < 31; i++) {
            Kit.makeFile(x, "G" + i);
        }
        entry(x, 2, 6);
        for (int i = 32; i < 1024; i++) {
            Kit.due("byte " + i + " of an added cluster", x.byteAt(18 + i / 512, i % 512), 0);
        }
        // the cluster behind them is not taken, which the first table hides then
        Kit.poke(x, 8, 4 * 7, 4, END);
        Kit.due("the next cluster", x.byteAt(20, 0), 0xEE);
        // of eight sectors all are filled
        Run y = new Run(256);
        y.format(8, 8, 1, 0);
        Kit.makeFile(y, "F");
        for (int sector = 17; sector <= 25; sector++) {
            y.poke(sector, 0, 0xEE);
            y.poke(sector, 511, 0xEE);
        }
        y.grow(0, 1, 5);
        for (int sector = 17; sector < 25; sector++) {
            Kit.due("first byte of sector " + sector, y.byteAt(sector, 0), sector == 17 ? 5 : 0);
            Kit.due("last byte of sector " + sector, y.byteAt(sector, 511), 0);
        }
        y.poke(0, 510, 0);
        Kit.due("the sector behind it", y.byteAt(25, 0), 0xEE);
    }

    /** Each change of this run comes to the tables, and to both alike. */
    private static Run changed(Run x) {
        Kit.makeFile(x, "F");
        Kit.makeDirectory(x, "D");
        x.grow(0, 9000, 0);
        Kit.writeText(x, 0, "text");
        x.cut(0, 5000);
        for (int i = 0; i < 31; i++) {
            Kit.makeFile(x, "G" + i);
        }
        x.remove(1);
        return x;
    }

    private static void tablesAlike() {
        Run x = changed(made());
        for (int i = 0; i < 4 * 125; i++) {
            Kit.due("byte " + i, x.byteAt(9, i), x.byteAt(8, i));
        }
        Kit.sound(x);
        // the second table begins behind all sectors of the first
        Run two = new Run(600);
        two.format(2, 8, 2, 0);
        Kit.makeFile(two, "F");
        two.grow(0, 250 * 1024, 0);
        for (int i = 0; i < 3 * 512; i++) {
            Kit.due("byte " + i, two.byteAt(11 + i / 512, i % 512), two.byteAt(8 + i / 512, i % 512));
        }
        Kit.due("an entry in the second sector", Kit.number(two, 9, 0, 4), 129);
        Kit.sound(two);
        // there is no second one
        Run one = new Run(256);
        one.format(2, 8, 1, 0);
        changed(one);
        Kit.due("the root stands there", Kit.text(one, 9, 0, 11), "F          ");
        Kit.sound(one);
    }

    private static void sectorsOneAndSix() {
        Run x = made();
        int[] places = {0, 13, 100, 484, 488, 492, 508, 511};
        int[] one = new int[512];
        int[] six = new int[512];
        for (int at : places) {
            x.poke(6, at, at + 3);
        }
        for (int i = 0; i < 512; i++) {
            one[i] = x.byteAt(1, i);
            six[i] = x.byteAt(6, i);
        }
        changed(x);
        x.stamp(0, 2, 34, 1);
        for (int i = 0; i < 512; i++) {
            Kit.due("byte " + i + " of sector 1", x.byteAt(1, i), one[i]);
            Kit.due("byte " + i + " of sector 6", x.byteAt(6, i), six[i]);
        }
        // one that tells how many are free, or which comes next, stays as it is, too
        x.poke(1, 488, 77);
        x.poke(1, 492, 78);
        x.grow(0, 5000, 0);
        Kit.due("byte 488", x.byteAt(1, 488), 77);
        Kit.due("byte 492", x.byteAt(1, 492), 78);
    }

    private static void roomFirst() {
        // 23 clusters: the root's, 21 of FULL and one that is free
        Run x = new Run(256);
        x.format(8, 64, 2, 0);
        Kit.makeFile(x, "FULL");
        x.grow(0, 21 * 4096, 0);
        for (int i = 1; i < 128; i++) {
            Kit.makeFile(x, "F" + i);
        }
        Kit.due("free", x.free(), 1);
        int[] kept = Kit.image(x, 74);
        Kit.due("a directory that wants two clusters", Kit.makeThrows(x, "D", true), Kit.ROOM);
        Kit.tape(x, new byte[20]);
        Kit.throwsDue("a growth that wants two", () -> x.grow(0, 4097, 0), Kit.ROOM);
        Kit.throwsDue("a first growth that wants two", () -> x.grow(1, 4097, 0), Kit.ROOM);
        Kit.holds("nothing is changed", Arrays.equals(kept, Kit.image(x, 74)));
        Kit.due("not even the tape by grow", Kit.tapeLength(x), 20);
        x.clear();
        Run file = x.fork();
        Kit.due("a file has room", Kit.makeFile(file, "G"), 128);
        Kit.due("none is free", file.free(), 0);
        Kit.sound(file);
        Run grown = x.fork();
        Kit.due("a growth that wants one", grown.grow(0, 4096, 0), 22 * 4096);
        Kit.due("no slot more", Kit.makeThrows(grown, "G", false), Kit.ROOM);
        Kit.tape(grown, "x");
        Kit.throwsDue("no byte more", () -> grown.write(0), Kit.ROOM);
        Kit.due("the tape is used up", Kit.tapeLength(grown), 0);
        Kit.due("nothing has room", grown.write(0), 22 * 4096);
        Kit.sound(grown);
    }

    private static void ends() {
        Run x = made();
        Kit.makeFile(x, "F");
        Kit.makeDirectory(x, "D");
        entry(x, 3, END);
        x.grow(0, 3000, 0);
        entry(x, 6, END);
        x.cut(0, 1000);
        entry(x, 4, END);
        entry(x, 5, 0);
        // an end that is another number stays, and a chain that is made longer goes on from it
        for (long end = 268435448; end < END; end++) {
            Run y = x.fork();
            Kit.link(y, 4, end);
            Kit.due("fault", y.fault(), 0);
            Kit.due("no cluster more", y.grow(0, 24, 0), 1024);
            entry(y, 4, end);
            Kit.due("none less", y.cut(0, 1), 0);
            entry(y, 4, end);
            y.grow(0, 1024, 0);
            entry(y, 4, 5);
            entry(y, 5, END);
            Kit.sound(y);
        }
    }

    private static void highBits() {
        for (long high : new long[] {1L << 28, 5L << 28, 8L << 28, 15L << 28}) {
            Run x = made();
            Kit.makeFile(x, "F");
            Kit.link(x, 2, high + END);
            for (int cluster = 3; cluster <= 5; cluster++) {
                Kit.link(x, cluster, high);
            }
            Kit.due("fault", x.fault(), 0);
            x.grow(0, 1025, 0);
            entry(x, 3, high + 4);
            entry(x, 4, high + END);
            x.cut(0, 1024);
            entry(x, 3, high + END);
            entry(x, 4, high);
            Kit.makeDirectory(x, "D");
            entry(x, 4, high + END);
            for (int i = 0; i < 31; i++) {
                Kit.makeFile(x, "G" + i);
            }
            entry(x, 2, high + 5);
            entry(x, 5, high + END);
            x.remove(1);
            entry(x, 4, high);
            x.remove(0);
            entry(x, 3, high);
            Kit.sound(x);
        }
    }

    private static void plainNames() {
        String[] plain = {"A", "Z", "0", "9", "ABCDEFGH", "ABCDEFGH.I", "A.IJK", "ABCDEFGH.IJK", "!#$%&'()", "-@^_`{}~.~~~", "A~1"};
        for (String name : plain) {
            Run x = made();
            Kit.makeFile(x, name);
            Kit.due("parts of " + name, x.about(0, 6), 0);
            Kit.due("name", Kit.nameOf(x, 0), name);
            Kit.due("the next slot of " + name, x.byteAt(ROOT, 32), 0);
            int point = name.indexOf('.');
            String base = point < 0 ? name : name.substring(0, point);
            String extension = point < 0 ? "" : name.substring(point + 1);
            Kit.due("short name", Kit.text(x, ROOT, 0, 11), (base + "        ").substring(0, 8) + (extension + "   ").substring(0, 3));
        }
        String[] others = {"a", "z", "Ab", "A.b", "ABCDEFGHI", "ABCDEFGHI.J", "ABCDEFGH.IJKL", "A.BCDE", "A.B.C", ".A", "..A", "A..B",
            "A B", " A", "A .B", "A. B", "A+", "A,", "A;", "A=", "[", "]", "\u00c4", "\u0141"};
        for (String name : others) {
            Run x = made();
            Kit.makeFile(x, name);
            Kit.due("parts of " + name, x.about(0, 6), 1);
            Kit.due("name", Kit.nameOf(x, 0), name);
            Kit.holds("a tail of " + name, Kit.text(x, ROOT, 32, 8).contains("~1"));
        }
    }

    private static void partsAsNeeded() {
        for (int length : new int[] {9, 12, 13, 14, 26, 27, 39, 40, 247, 248, 255}) {
            Run x = made();
            Kit.makeFile(x, "N".repeat(length));
            int parts = (length + 12) / 13;
            Kit.due("parts of " + length + " units", x.about(0, 6), parts);
            Kit.due("the entry behind them", Kit.text(x, ROOT + parts / 16, parts % 16 * 32, 8), "NNNNNN~1");
            Kit.due("the first", x.byteAt(ROOT, 0), 64 + parts);
            Kit.sound(x);
        }
    }

    private static void shortNameDue(String name, String want) {
        Run x = made();
        Kit.makeFile(x, name);
        int at = 32 * (int) x.about(0, 6);
        Kit.due("short name of " + name, Kit.text(x, ROOT + at / 512, at % 512, 11), want);
        Kit.sound(x);
    }

    private static void bases() {
        shortNameDue("small", "SMALL~1    ");
        shortNameDue("small.txt", "SMALL~1 TXT");
        shortNameDue("a.b.c", "AB~1    C  ");
        shortNameDue("a.b.c.d", "ABC~1   D  ");
        shortNameDue(".hidden", "HIDDEN~1   ");
        shortNameDue(".hi", "HI~1       ");
        shortNameDue(".hid.txt", "HID~1   TXT");
        // a point is something before the last one, and goes
        shortNameDue("..double", "~1      DOU");
        shortNameDue("...x", "~1      X  ");
        shortNameDue(" .x", "~1      X  ");
        shortNameDue(". x", "X~1        ");
        shortNameDue("NINECHARS", "NINECH~1   ");
        shortNameDue("x".repeat(255), "XXXXXX~1   ");
        shortNameDue("x".repeat(251) + ".abc", "XXXXXX~1ABC");
    }

    private static void letters() {
        shortNameDue("a b c", "ABC~1      ");
        shortNameDue("az.AZ", "AZ~1    AZ ");
        shortNameDue("a+b,c;d", "A_B_C_~1   ");
        shortNameDue("[=]", "___~1      ");
        shortNameDue("\u00e9t\u00e9.\u65e5x", "_T_~1   _X ");
        shortNameDue("\u0141\u0100", "__~1       ");
        shortNameDue("\ufffd", "_~1        ");
        shortNameDue("a!#$%&", "A!#$%&~1   ");
        shortNameDue("a'()-@", "A'()-@~1   ");
        shortNameDue("a^_`{}~", "A^_`{}~1   ");
        shortNameDue("~a", "~A~1       ");
        shortNameDue("a . b", "A~1     B  ");
        shortNameDue("     aa     b", "AAB~1      ");
    }

    private static void extensions() {
        shortNameDue("a.b", "A~1     B  ");
        shortNameDue("a.bc", "A~1     BC ");
        shortNameDue("a.bcd", "A~1     BCD");
        shortNameDue("a.bcde", "A~1     BCD");
        shortNameDue("A.BCDE", "A~1     BCD");
        shortNameDue("a.b c d e", "A~1     BCD");
        shortNameDue("a. b", "A~1     B  ");
        shortNameDue("a.\u65e5\u65e5\u65e5\u65e5", "A~1     ___");
        shortNameDue("a.+", "A~1     _  ");
        shortNameDue("ab..cd", "AB~1    CD ");
        shortNameDue("A.BCD.E", "ABCD~1  E  ");
        shortNameDue("A.BCD.E F", "ABCD~1  EF ");
        shortNameDue("noextension", "NOEXTE~1   ");
        shortNameDue(".ext", "EXT~1      ");
    }

    private static void tails() {
        Run x = made();
        for (int i = 1; i <= 101; i++) {
            Kit.makeFile(x, "number " + i);
        }
        // nothing else takes clusters, so that those of the root stand one behind another
        for (int i = 1; i <= 101; i++) {
            String want = i < 10 ? "NUMBER~" + i : i < 100 ? "NUMBE~" + i : "NUMB~" + i;
            Kit.due("tail " + i, Kit.text(x, ROOT, (2 * i - 1) * 32, 11), want + "   ");
        }
        Kit.sound(x);
        // a base that is short enough stays whole
        Run y = made();
        for (int i = 1; i <= 12; i++) {
            Kit.makeFile(y, "abcde" + " ".repeat(i) + ".x");
        }
        for (int i = 1; i <= 12; i++) {
            int parts = i <= 6 ? 1 : 2;
            int entry = i <= 6 ? 2 * i - 1 : 12 + 3 * (i - 6) - 1;
            Kit.due("parts", y.about(i - 1, 6), parts);
            Kit.due("tail " + i, Kit.text(y, ROOT, entry * 32, 11), i < 10 ? "ABCDE~" + i + " X  " : "ABCDE~" + i + "X  ");
        }
    }

    private static void firstNumber() {
        Run x = made();
        Kit.makeFile(x, "ab");
        Kit.makeFile(x, "ab ab");
        Kit.makeFile(x, "AB~1.C");
        Kit.due("AB~1", Kit.text(x, ROOT, 32, 11), "AB~1       ");
        // another base, another extension
        Kit.makeFile(x, "ab.c");
        Kit.due("AB~1.C is there", Kit.text(x, ROOT, 6 * 32, 11), "AB~2    C  ");
        Kit.makeFile(x, "ab.d");
        Kit.due("AB~1.D is not", Kit.text(x, ROOT, 8 * 32, 11), "AB~1    D  ");
        Kit.makeFile(x, "ab.dd");
        Kit.due("nor is AB~1.DD", Kit.text(x, ROOT, 10 * 32, 11), "AB~1    DD ");
        // a number that is free again, and one that a name without parts has
        Run y = made();
        for (int i = 0; i < 5; i++) {
            Kit.makeFile(y, "abcdefg " + i);
        }
        y.remove(2);
        y.remove(0);
        Kit.makeFile(y, "abcdefg x");
        Kit.due("1 again", Kit.text(y, ROOT, 32, 8), "ABCDEF~1");
        Kit.makeFile(y, "abcdefg y");
        Kit.due("3 again", Kit.text(y, ROOT, 5 * 32, 8), "ABCDEF~3");
        Kit.makeFile(y, "ABCDEF~6");
        Kit.makeFile(y, "abcdefg z");
        Kit.due("6 is there", Kit.text(y, ROOT, 12 * 32, 8), "ABCDEF~7");
        // in another directory it is 1
        Kit.makeDirectory(y, "D");
        y.enter(7);
        Kit.makeFile(y, "abcdefg x");
        Kit.due("1 in D", Kit.text(y, 12, 3 * 32, 8), "ABCDEF~1");
        Kit.sound(y);
    }

    /** Which slots of the root's first cluster are taken, as . (empty or not looked at) and X. */
    private static String taken(Run x, int slots) {
        StringBuilder text = new StringBuilder();
        boolean end = false;
        for (int slot = 0; slot < slots; slot++) {
            int mark = x.byteAt(ROOT + slot / 16, slot % 16 * 32);
            end |= mark == 0;
            text.append(end || mark == 229 ? '.' : 'X');
        }
        return text.toString();
    }

    private static void firstSlots() {
        Run x = made();
        for (int i = 0; i < 9; i++) {
            Kit.makeFile(x, "F" + i);
        }
        for (int k : new int[] {8, 6, 5, 3, 2, 1}) {
            x.remove(k);
        }
        // F0, F4 and F7 are left
        Kit.due("slots", taken(x, 12), "X...X..X....");
        Run three = x.fork();
        Kit.due("three slots: number", Kit.makeFile(three, "fourteen units"), 1);
        Kit.due("three slots", taken(three, 12), "XXXXX..X....");
        Run four = x.fork();
        Kit.due("four slots: number", Kit.makeFile(four, "twenty-seven units of a name"), 3);
        Kit.due("four slots, an empty one among them", taken(four, 13), "X...X..XXXXX.");
        Run two = x.fork();
        Kit.due("two slots: number", Kit.makeFile(two, "two"), 1);
        Kit.due("two slots", taken(two, 12), "XXX.X..X....");
        Kit.due("two more: number", Kit.makeFile(two, "two more"), 3);
        Kit.due("two more", taken(two, 12), "XXX.XXXX....");
        Kit.due("one: number", Kit.makeFile(two, "ONE"), 2);
        Kit.due("one", taken(two, 12), "XXXXXXXX....");
        Kit.sound(two);
        // what stood in them is gone
        Kit.due("entry", Kit.text(two, ROOT, 96, 11), "ONE        ");
        // the points of a directory are never empty
        Run d = made();
        Kit.makeDirectory(d, "D");
        d.enter(0);
        Kit.makeFile(d, "INSIDE");
        Kit.due("the third slot", Kit.text(d, 12, 64, 6), "INSIDE");
        // across the end of a cluster, into one that is not the next
        Run far = made();
        Kit.link(far, 2, 7);
        Kit.link(far, 7, END);
        for (int i = 0; i < 31; i++) {
            Kit.makeFile(far, "F" + i);
        }
        Kit.due("number", Kit.makeFile(far, "two"), 31);
        Kit.due("its part", far.byteAt(11, 480), 65);
        Kit.due("its entry", Kit.text(far, sectorOf(7), 0, 11), "TWO~1      ");
        Kit.due("no cluster is taken", far.free(), 121);
        Kit.sound(far);
    }

    private static void addedClusters() {
        Run x = made();
        for (int i = 0; i < 30; i++) {
            Kit.makeFile(x, "F" + i);
        }
        Run two = x.fork();
        Kit.makeFile(two, "two");
        Kit.due("two slots are left", two.free(), 122);
        entry(two, 2, END);
        Run three = x.fork();
        Kit.makeFile(three, "fourteen units");
        Kit.due("one too few", three.free(), 121);
        entry(three, 2, 3);
        entry(three, 3, END);
        Kit.due("the first part", three.byteAt(11, 448), 66);
        Kit.due("the second", three.byteAt(11, 480), 1);
        Kit.due("the entry", Kit.text(three, 12, 0, 8), "FOURTE~1");
        Kit.sound(three);
        // the longest name: two slots and 19 more
        Run most = x.fork();
        Kit.makeFile(most, "n".repeat(255));
        Kit.due("the first part", most.byteAt(11, 448), 84);
        Kit.due("the last one", most.byteAt(13, 32), 1);
        Kit.due("the entry", Kit.text(most, 13, 64, 8), "NNNNNN~1");
        Kit.due("one cluster", most.free(), 121);
        Kit.sound(most);
        // empty slots at the end of the last cluster count, those before another entry do not
        Run empty = x.fork();
        Kit.makeFile(empty, "two");
        empty.remove(30);
        empty.remove(29);
        empty.remove(3);
        Kit.makeFile(empty, "twenty-seven units of a name");
        Kit.due("three slots and one more", empty.free(), 121);
        Kit.due("the first part", empty.byteAt(11, 416), 67);
        Kit.due("the entry", Kit.text(empty, 12, 0, 8), "TWENTY~1");
        Kit.sound(empty);
        // a directory that is not the root, the lowest free cluster
        Run d = made();
        Kit.makeDirectory(d, "D");
        Kit.makeDirectory(d, "E");
        Kit.makeDirectory(d, "G");
        d.remove(1);
        d.enter(0);
        for (int i = 0; i < 30; i++) {
            Kit.makeFile(d, "F" + i);
        }
        entry(d, 3, END);
        Kit.makeFile(d, "LAST");
        entry(d, 3, 4);
        entry(d, 4, END);
        Kit.sound(d);
    }

    private static void behind() {
        Run x = made();
        // slots that are not looked at have anything
        for (int slot = 1; slot < 32; slot++) {
            x.poke(ROOT + slot / 16, slot % 16 * 32, 0xEE);
            x.poke(ROOT + slot / 16, slot % 16 * 32 + 1, 0xDD);
        }
        Kit.makeFile(x, "A");
        bytes(x, ROOT, 32, 0, 0xDD);
        bytes(x, ROOT, 64, 0xEE, 0xDD);
        Kit.makeFile(x, "two");
        bytes(x, ROOT, 96, 0, 0xDD);
        bytes(x, ROOT, 128, 0xEE, 0xDD);
        Kit.sound(x);
        // a slot that was looked at stays: an entry, an empty one
        Run y = x.fork();
        Kit.makeFile(y, "B");
        y.remove(0);
        Kit.makeFile(y, "C");
        Kit.due("the part behind it", y.byteAt(ROOT, 32), 65);
        y.remove(1);
        y.remove(0);
        Kit.makeFile(y, "E");
        Kit.due("an empty slot behind it", y.byteAt(ROOT, 32), 229);
        Kit.due("items", y.items(), 2);
        bytes(y, ROOT, 128, 0, 0xDD);
        bytes(y, ROOT, 160, 0xEE, 0xDD);
        Kit.sound(y);
        // behind empty slots that end where nothing is looked at
        Run z = x.fork();
        z.remove(1);
        Kit.makeFile(z, "d");
        bytes(z, ROOT, 96, 0, 0xDD);
        bytes(z, ROOT, 128, 0xEE, 0xDD);
        Run w = x.fork();
        w.remove(1);
        Kit.makeFile(w, "twenty-seven units of a name");
        bytes(w, ROOT, 160, 0, 0xDD);
        bytes(w, ROOT, 192, 0xEE, 0xDD);
        Kit.sound(w);
        behindClusters();
    }

    /** The slot behind is the next one of the chain, not of the disk. */
    private static void behindClusters() {
        Run x = made();
        Kit.link(x, 2, 7);
        Kit.link(x, 7, END);
        x.poke(12, 0, 0xEE);
        x.poke(20, 0, 0xEE);
        x.poke(20, 32, 0xEE);
        for (int i = 0; i < 31; i++) {
            Kit.makeFile(x, "F" + i);
        }
        Kit.due("not yet", x.byteAt(20, 0), 0xEE);
        Kit.makeFile(x, "LAST");
        Kit.due("the first slot of cluster 7", x.byteAt(20, 0), 0);
        Kit.due("the second", x.byteAt(20, 32), 0xEE);
        Kit.due("items", x.items(), 32);
        Kit.sound(x);
        Run open = x.fork();
        open.poke(0, 510, 0);
        Kit.due("cluster 3 is as it was", open.byteAt(12, 0), 0xEE);
        // the last slot of the chain has none behind it
        Run y = made();
        y.poke(12, 0, 0xEE);
        for (int i = 0; i < 32; i++) {
            Kit.makeFile(y, "F" + i);
        }
        Kit.sound(y);
        y.poke(0, 510, 0);
        Kit.due("cluster 3 is as it was", y.byteAt(12, 0), 0xEE);
    }

    private static void newDirectory() {
        Run x = made();
        Kit.makeDirectory(x, "D");
        Kit.due("one cluster", x.free(), 121);
        entry(x, 3, END);
        bytes(x, 12, 0, '.', ' ', ' ', ' ', ' ', ' ', ' ', ' ', ' ', ' ', ' ', 16, 0, 0, 0, 0, 0, 0, 0, 0, 0, 0, 0, 0, 33, 0, 3,
                0, 0, 0, 0, 0);
        bytes(x, 12, 32, '.', '.', ' ', ' ', ' ', ' ', ' ', ' ', ' ', ' ', ' ', 16, 0, 0, 0, 0, 0, 0, 0, 0, 0, 0, 0, 0, 33, 0, 0,
                0, 0, 0, 0, 0, 0);
        x.enter(0);
        Kit.makeDirectory(x, "a directory with parts");
        bytes(x, 14, 0, '.', ' ', ' ', ' ', ' ', ' ', ' ', ' ', ' ', ' ', ' ', 16, 0, 0, 0, 0, 0, 0, 0, 0, 0, 0, 0, 0, 33, 0, 4,
                0, 0, 0, 0, 0);
        bytes(x, 14, 32, '.', '.', ' ', ' ', ' ', ' ', ' ', ' ', ' ', ' ', ' ', 16, 0, 0, 0, 0, 0, 0, 0, 0, 0, 0, 0, 0, 33, 0, 3,
                0, 0, 0, 0, 0, 0);
        Kit.sound(x);
        // the parent of one that the root has is 0, whatever cluster the root is
        Run y = made();
        Kit.link(y, 5, END);
        Kit.link(y, 2, 0);
        y.poke(0, 44, 5);
        Kit.makeDirectory(y, "D");
        Kit.due("\"..\"", Kit.number(y, 10, 32 + 26, 2), 0);
        y.enter(0);
        Kit.makeDirectory(y, "E");
        Kit.due("\"..\" of E", Kit.number(y, 12, 32 + 26, 2), 2);
        Kit.sound(y);
    }

    private static void newEntry() {
        Run x = made();
        // an empty slot and those that are not looked at, full of something
        for (int at = 1; at < 128; at++) {
            if (at % 32 != 0) {
                x.poke(ROOT, at, 0xEE);
            }
        }
        x.poke(ROOT, 0, 229);
        Kit.makeFile(x, "AB.C");
        bytes(x, ROOT, 0, 'A', 'B', ' ', ' ', ' ', ' ', ' ', ' ', 'C', ' ', ' ', 32, 0, 0, 0, 0, 0, 0, 0, 0, 0, 0, 0, 0, 33, 0,
                0, 0, 0, 0, 0, 0, 0, 0xEE);
        Kit.makeDirectory(x, "D");
        bytes(x, ROOT, 32, 'D', ' ', ' ', ' ', ' ', ' ', ' ', ' ', ' ', ' ', ' ', 48, 0, 0, 0, 0, 0, 0, 0, 0, 0, 0, 0, 0, 33, 0,
                3, 0, 0, 0, 0, 0, 0, 0xEE);
        Kit.makeFile(x, "d e");
        int sum = x.byteAt(ROOT, 64 + 13);
        bytes(x, ROOT, 64, 65, 'd', 0, ' ', 0, 'e', 0, 0, 0, 255, 255, 15, 0, sum, 255, 255, 255, 255, 255, 255, 255, 255, 255, 255,
                255, 255, 0, 0, 255, 255, 255, 255);
        bytes(x, ROOT, 96, 'D', 'E', '~', '1', ' ', ' ', ' ', ' ', ' ', ' ', ' ', 32, 0, 0, 0, 0, 0, 0, 0, 0, 0, 0, 0, 0, 33, 0,
                0, 0, 0, 0, 0, 0);
        Kit.due("size", x.about(0, 5), 0);
        Kit.sound(x);
    }

    private ChangeTest() {
    }
}
