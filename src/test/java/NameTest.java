/** What the document tells of THE NAME of an entry and its PARTS, and of names that are ALIKE. */
public final class NameTest {
    private static final int ROOT = 10;
    /** Where the units of a part are. */
    private static final int[] PLACES = {1, 3, 5, 7, 9, 14, 16, 18, 20, 22, 24, 28, 30};

    public static void main(String[] args) {
        Kit.says("if PARTS stand directly before it, what they say", NameTest::directlyBefore);
        Kit.says("as many as a thirteenth of its units (up)", NameTest::howMany);
        Kit.says("their numbers at 0 (1) downwards to 1, 64 more in the first one", NameTest::numbers);
        Kit.says("at 12 (1) 0, at 26 (2) 0", NameTest::zeros);
        Kit.says("at 13 (1) the SUM of the short name", NameTest::sums);
        Kit.says("13 UNITS each, 5 at 1, 6 at 14, 2 at 28 (2 bytes each), which follow one another from part 1 on",
                NameTest::places);
        Kit.says("The name's units come first, then (if there is room) a 0, then 65535 to the end.", NameTest::fillers);
        Kit.says("A name has 1 to 255 units", NameTest::lengths);
        Kit.says("none is below 32, one of \" * / : < > ? \\ |, 127, or 55296 .. 57343, or above 65533", NameTest::units);
        Kit.says("the last one is neither a blank nor a point", NameTest::lastUnit);
        Kit.says("it isn't . or .. .", NameTest::points);
        Kit.says("Names are ALIKE if their units are, a .. z being taken for A .. Z.", NameTest::alike);
        Kit.says("No two names of a directory are alike, no two short names (11 bytes) the same", NameTest::twins);
        Kit.says("labels do not count for this", NameTest::labels);
        Kit.end();
    }

    private static Run fresh() {
        Run x = new Run(256);
        x.format(2, 8, 2, 0);
        return x;
    }

    private static Run withFile(String name) {
        Run x = fresh();
        Kit.makeFile(x, name);
        return x;
    }

    /** Unit i of the name whose entry is in a slot of the root's first sectors. */
    private static void unit(Run x, int entry, int i, int value) {
        int at = (entry - 1 - i / 13) * 32 + PLACES[i % 13];
        Kit.poke(x, ROOT + at / 512, at % 512, 2, value);
    }

    private static int faultWithUnit(Run x, int entry, int i, int value) {
        Run y = x.fork();
        unit(y, entry, i, value);
        return y.fault();
    }

    private static void directlyBefore() {
        Run x = fresh();
        Kit.makeFile(x, "A");
        Kit.makeFile(x, "small");
        Kit.makeFile(x, "B");
        // slots: A, a part, SMALL~1, B
        Kit.due("name", Kit.nameOf(x, 1), "small");
        Kit.due("the next entry's", Kit.nameOf(x, 2), "B");
        Kit.due("it has no parts", x.about(2, 6), 0);
        // an empty slot, or another entry, between them
        Run gap = fresh();
        Kit.makeFile(gap, "A");
        Kit.makeFile(gap, "B");
        Kit.makeFile(gap, "small");
        gap.remove(1);
        for (int i = 0; i < 32; i++) {
            gap.poke(ROOT, 32 + i, x.byteAt(ROOT, 32 + i));
        }
        gap.poke(ROOT, 64, 229);
        Kit.due("an empty slot between", gap.fault(), 4);
        gap.poke(ROOT, 32, 229);
        Kit.due("without the part", gap.fault(), 0);
        Kit.due("it has its short name", Kit.nameOf(gap, 1), "SMALL~1");
        // a part at the end of what is looked at, and before a label
        Kit.faults(x, ROOT, 64, 1, 4, 0, 229);
        Kit.faults(x, ROOT, 64 + 11, 1, 4, 8, 15);
        Kit.faults(x, ROOT, 32, 1, 0, 229);
    }

    private static void howMany() {
        int[][] lengths = {{1, 1}, {12, 1}, {13, 1}, {14, 2}, {25, 2}, {26, 2}, {27, 3}, {246, 19}, {247, 19}, {248, 20}, {254, 20},
            {255, 20}};
        for (int[] l : lengths) {
            Run x = withFile("n".repeat(l[0]));
            Kit.due("parts of " + l[0] + " units", x.about(0, 6), l[1]);
            Kit.due("name", Kit.nameOf(x, 0), "n".repeat(l[0]));
            Kit.sound(x);
            // one part less: the first one that is left is not the first
            Kit.faults(x, ROOT, 0, 1, l[1] == 1 ? 0 : 4, 229);
        }
        // one part more, which has nothing of the name: 13 units in two parts, 26 in three
        for (int parts = 2; parts <= 20; parts += parts == 3 ? 17 : 1) {
            Run x = withFile("n".repeat(13 * parts - 12));
            Kit.due("parts", x.about(0, 6), parts);
            unit(x, parts, 13 * parts - 13, 0);
            unit(x, parts, 13 * parts - 12, 65535);
            Kit.due("a part too many", x.fault(), 4);
        }
        // parts for two entries before one
        Run twice = fresh();
        Kit.makeFile(twice, "first");
        Kit.makeFile(twice, "second");
        Kit.faults(twice, ROOT, 32 + 11, 1, 4, 15);
    }

    private static void numbers() {
        Run one = withFile("one");
        for (int number = 1; number < 256; number++) {
            Kit.faults(one, ROOT, 0, 1, number == 65 || number == 229 ? 0 : 4, number);
        }
        Run x = withFile("a name of twenty-seven unit");
        Kit.due("numbers", Kit.text(x, ROOT, 0, 1) + Kit.text(x, ROOT, 32, 1) + Kit.text(x, ROOT, 64, 1), "C\2\1");
        Kit.faults(x, ROOT, 0, 1, 4, 1, 2, 3, 65, 66, 68, 64, 131, 195);
        Kit.faults(x, ROOT, 32, 1, 4, 1, 3, 66, 67, 130, 229, 0);
        Kit.faults(x, ROOT, 64, 1, 4, 2, 65, 129, 229, 0);
        Run most = withFile("n".repeat(255));
        Kit.due("the first of 20", most.byteAt(ROOT, 0), 84);
        Kit.due("the second", most.byteAt(ROOT, 32), 19);
        Kit.due("the last", most.byteAt(ROOT + 1, 19 * 32 - 512), 1);
        Kit.faults(most, ROOT, 0, 1, 4, 20, 83, 85);
    }

    private static void zeros() {
        Run x = withFile("fourteen units");
        for (int slot = 0; slot < 2; slot++) {
            Kit.faults(x, ROOT, 32 * slot + 12, 1, 4, 1, 8, 128, 255);
            Kit.faults(x, ROOT, 32 * slot + 26, 2, 4, 1, 3, 256, 32768);
        }
    }

    private static int sumOf(String shortName) {
        int sum = 0;
        for (char c : shortName.toCharArray()) {
            sum = ((sum & 1) * 128 + sum / 2 + c) % 256;
        }
        return sum;
    }

    private static void sums() {
        String[] names = {"a", "fourteen units", "~~~~~~~~~~", "x.y z", "{}{}{}{}.{}{}", "\u65e5\u65e5.\u65e5\u65e5\u65e5\u65e5"};
        for (String name : names) {
            Run x = withFile(name);
            int parts = (int) x.about(0, 6);
            int sum = sumOf(Kit.text(x, ROOT, 32 * parts, 11));
            for (int slot = 0; slot < parts; slot++) {
                Kit.due("sum", x.byteAt(ROOT, 32 * slot + 13), sum);
                Kit.faults(x, ROOT, 32 * slot + 13, 1, 4, sum ^ 1, sum ^ 128, 255 - sum);
            }
        }
        Kit.due("by hand: A and ten blanks", sumOf("A          "), 128);
        // another short name wants another sum
        Run x = withFile("a");
        Kit.faults(x, ROOT, 32, 1, 4, 'B');
        Kit.faults(x, ROOT, 32 + 10, 1, 4, 'B');
    }

    private static void places() {
        String name = "abcdefghijklmnopqrstuvwxyz0";
        Run x = withFile(name);
        boolean[] used = new boolean[96];
        for (int i = 0; i < 39; i++) {
            int at = (2 - i / 13) * 32 + PLACES[i % 13];
            used[at] = true;
            used[at + 1] = true;
            Kit.due("unit " + i, Kit.number(x, ROOT, at, 2), i < 27 ? name.charAt(i) : i == 27 ? 0 : 65535);
        }
        int rest = 0;
        for (boolean byUnit : used) {
            rest += byUnit ? 0 : 1;
        }
        Kit.due("bytes that no unit has", rest, 3 * 6);
        // the higher byte is the second one
        unit(x, 3, 26, 0x65E5);
        Kit.due("bytes", Kit.number(x, ROOT, 1, 1) * 256 + Kit.number(x, ROOT, 2, 1), 0xE565);
        Kit.due("name", Kit.nameOf(x, 0), "abcdefghijklmnopqrstuvwxyz\u65e5");
        // each unit is read where it is
        for (int i = 0; i < 26; i++) {
            Run y = x.fork();
            unit(y, 3, i, '!');
            Kit.due("unit " + i, Kit.nameOf(y, 0), "abcdefghijklmnopqrstuvwxyz\u65e5".replace((char) ('a' + i), '!'));
        }
    }

    private static void fillers() {
        // 3 units, a 0, nine fillers
        Run x = withFile("abc");
        Kit.due("0", faultWithUnit(x, 1, 3, 0), 0);
        for (int value : new int[] {1, ' ', 'd', 65533, 65534, 65535}) {
            Kit.due("in place of the 0: " + value, faultWithUnit(x, 1, 3, value), 4);
            for (int i = 4; i < 13; i++) {
                Kit.due("in place of a filler: " + value, faultWithUnit(x, 1, i, value), value == 65535 ? 0 : 4);
            }
        }
        for (int i = 4; i < 13; i++) {
            Kit.due("a 0 in place of a filler", faultWithUnit(x, 1, i, 0), 4);
        }
        // 12 units and a 0: no filler; 13 units: no room for the 0
        Run twelve = withFile("abcdefghijkl");
        Kit.due("the 0", Kit.number(twelve, ROOT, 30, 2), 0);
        Kit.due("another unit", faultWithUnit(twelve, 1, 12, 'm'), 0);
        Kit.due("a filler", faultWithUnit(twelve, 1, 12, 65535), 4);
        Run thirteen = withFile("abcdefghijklm");
        Kit.due("no 0", Kit.number(thirteen, ROOT, 30, 2), 'm');
        Kit.due("a 0", faultWithUnit(thirteen, 1, 12, 0), 0);
        Kit.due("a filler", faultWithUnit(thirteen, 1, 12, 65535), 4);
        // 26 units in two parts; 14 in two: eleven fillers and the 0 in part 2
        Run two = withFile("abcdefghijklmnopqrstuvwxyz");
        Kit.due("no 0", Kit.number(two, ROOT, 30, 2), 'z');
        Run fourteen = withFile("abcdefghijklmn");
        Kit.due("the 0", Kit.number(fourteen, ROOT, 3, 2), 0);
        Kit.due("a filler", Kit.number(fourteen, ROOT, 5, 2), 65535);
        Kit.due("the last filler", Kit.number(fourteen, ROOT, 30, 2), 65535);
        Kit.due("a 0 in part 1", faultWithUnit(fourteen, 2, 12, 0), 4);
        Kit.due("a 0 at the end", faultWithUnit(fourteen, 2, 25, 0), 4);
    }

    private static void lengths() {
        Run one = withFile("a");
        Kit.due("one unit", Kit.nameOf(one, 0), "a");
        unit(one, 1, 0, 0);
        Kit.due("none, with a 0 as a filler", one.fault(), 4);
        unit(one, 1, 1, 65535);
        Kit.due("none", one.fault(), 4);
        unit(one, 1, 0, 65535);
        Kit.due("none, without a 0", one.fault(), 4);
        Run most = withFile("x".repeat(255));
        Kit.due("255 units", Kit.nameOf(most, 0), "x".repeat(255));
        Kit.sound(most);
        unit(most, 20, 255, 'x');
        unit(most, 20, 256, 0);
        Kit.due("256 units", most.fault(), 4);
        for (int i = 256; i < 259; i++) {
            unit(most, 20, i, 'x');
        }
        unit(most, 20, 259, 0);
        Kit.due("259 units", most.fault(), 4);
        unit(most, 20, 259, 'x');
        Kit.due("260 units", most.fault(), 4);
        // 21 parts: 261 units
        Run more = fresh();
        Kit.makeFile(more, "F");
        Kit.makeFile(more, "x".repeat(255));
        for (int i = 255; i < 260; i++) {
            unit(more, 21, i, 'x');
        }
        more.poke(ROOT, 32, 20);
        more.poke(ROOT, 0, 64 + 21);
        more.poke(ROOT, 11, 15);
        more.poke(ROOT, 13, more.byteAt(ROOT, 32 + 13));
        Kit.poke(more, ROOT, 26, 2, 0);
        unit(more, 21, 260, 'x');
        unit(more, 21, 261, 0);
        for (int i = 262; i < 273; i++) {
            unit(more, 21, i, 65535);
        }
        Kit.due("261 units", more.fault(), 4);
        Run y = fresh();
        Kit.throwsDue("no unit on the tape", () -> y.make(false), Kit.ARGUMENT);
        Kit.due("256 units on the tape", Kit.makeThrows(y, "x".repeat(256), false), Kit.ARGUMENT);
        Kit.due("255 units on the tape", Kit.makeFile(y, "x".repeat(255)), 0);
    }

    /** On the disk and on the tape, at the beginning, in the middle and at the end. */
    private static void units() {
        Run x = withFile("abc");
        Run y = fresh();
        int[] good = {32, 33, 35, 43, 44, 46, 59, 61, 64, 91, 93, 94, 96, 123, 125, 126, 128, 255, 256, 2047, 2048, 55295, 57344,
            65532, 65533};
        int[] bad = {1, 9, 31, 34, 42, 47, 58, 60, 62, 63, 92, 124, 127, 55296, 56319, 56320, 57343, 65534, 65535};
        for (int i = 0; i < 3; i++) {
            for (int unit : good) {
                boolean last = i == 2 && (unit == 32 || unit == 46);
                Kit.due("unit " + i + " = " + unit, faultWithUnit(x, 1, i, unit), last ? 4 : 0);
                Kit.due("make", Kit.makeThrows(y.fork(), spelt(i, unit), false), last ? Kit.ARGUMENT : Kit.NOTHING);
            }
            for (int unit : bad) {
                Kit.due("unit " + i + " = " + unit, faultWithUnit(x, 1, i, unit), 4);
                Kit.due("make", Kit.makeThrows(y.fork(), spelt(i, unit), false), Kit.ARGUMENT);
            }
            Kit.due("unit " + i + " = 0", faultWithUnit(x, 1, i, 0), 4);
            Kit.due("make with a 0", Kit.makeThrows(y.fork(), spelt(i, 0), false), Kit.ARGUMENT);
        }
        // in all parts
        Run most = withFile("x".repeat(255));
        for (int i : new int[] {12, 13, 246, 247, 254}) {
            Kit.due("unit " + i, faultWithUnit(most, 20, i, '*'), 4);
            Kit.due("unit " + i, faultWithUnit(most, 20, i, 'y'), 0);
        }
    }

    private static String spelt(int i, int unit) {
        StringBuilder name = new StringBuilder("abc");
        name.setCharAt(i, (char) unit);
        return name.toString();
    }

    private static void lastUnit() {
        Run x = withFile("abc");
        Kit.due("a blank", faultWithUnit(x, 1, 2, ' '), 4);
        Kit.due("a point", faultWithUnit(x, 1, 2, '.'), 4);
        Kit.due("a blank before it", faultWithUnit(x, 1, 1, ' '), 0);
        Kit.due("a point before it", faultWithUnit(x, 1, 1, '.'), 0);
        Kit.due("a blank first", faultWithUnit(x, 1, 0, ' '), 0);
        Kit.due("a point first", faultWithUnit(x, 1, 0, '.'), 0);
        Run full = withFile("thirteen unit");
        Kit.due("a blank as the last of 13", faultWithUnit(full, 1, 12, ' '), 4);
        Kit.due("a point as the last of 13", faultWithUnit(full, 1, 12, '.'), 4);
        Run y = fresh();
        for (String name : new String[] {" ", "a ", "a.", "a .", "a. ", "A.", "A ", "...", "x".repeat(254) + " ", "x".repeat(254) + "."}) {
            Kit.due("make of " + name, Kit.makeThrows(y.fork(), name, false), Kit.ARGUMENT);
        }
        for (String name : new String[] {" a", ".a", "a b", "a.b", ". .a"}) {
            Kit.due("make of " + name, Kit.makeThrows(y.fork(), name, false), Kit.NOTHING);
        }
    }

    private static void points() {
        Run x = withFile("ab");
        Run one = x.fork();
        unit(one, 1, 0, '.');
        unit(one, 1, 1, 0);
        unit(one, 1, 2, 65535);
        Kit.due("one point", one.fault(), 4);
        Run two = x.fork();
        unit(two, 1, 0, '.');
        unit(two, 1, 1, '.');
        Kit.due("two points", two.fault(), 4);
        Run y = fresh();
        for (boolean directory : new boolean[] {false, true}) {
            Kit.due("make of one", Kit.makeThrows(y, ".", directory), Kit.ARGUMENT);
            Kit.due("make of two", Kit.makeThrows(y, "..", directory), Kit.ARGUMENT);
        }
        Kit.due("nothing is there", y.items(), 0);
    }

    private static void alike() {
        Run x = fresh();
        // capitals as a name with no parts, small letters in one with parts
        Kit.makeFile(x, "AZ");
        for (String name : new String[] {"az", "Az", "aZ", "AZ"}) {
            Kit.due("make of " + name, Kit.makeThrows(x, name, false), Kit.ARGUMENT);
        }
        // what stands beside a .. z and A .. Z is no letter: @ [ ` {
        Kit.makeFile(x, "x@[");
        Kit.due("make", Kit.makeThrows(x.fork(), "x`[", false), Kit.NOTHING);
        Kit.due("make", Kit.makeThrows(x.fork(), "x@{", false), Kit.NOTHING);
        Kit.due("make", Kit.makeThrows(x, "X@[", false), Kit.ARGUMENT);
        // nor are other letters
        Kit.makeFile(x, "\u00e4\u0430");
        Kit.due("make", Kit.makeThrows(x.fork(), "\u00c4\u0430", false), Kit.NOTHING);
        Kit.due("make", Kit.makeThrows(x.fork(), "\u00e4\u0410", false), Kit.NOTHING);
        // a unit of which the lower byte alone is the same
        Kit.makeFile(x, "b c");
        Kit.due("make", Kit.makeThrows(x.fork(), "\u0162 c", false), Kit.NOTHING);
        // not one that the other begins with
        Kit.due("make", Kit.makeThrows(x.fork(), "b", false), Kit.NOTHING);
        Kit.due("make", Kit.makeThrows(x.fork(), "b cd", false), Kit.NOTHING);
        Kit.due("make", Kit.makeThrows(x.fork(), "A", false), Kit.NOTHING);
        Kit.due("make", Kit.makeThrows(x.fork(), "AZA", false), Kit.NOTHING);
    }

    private static void twins() {
        Run x = fresh();
        Kit.makeFile(x, "long name");
        Kit.makeFile(x, "long nama");
        // slots 0 and 1, 2 and 3; unit 8 is at 20
        Kit.due("the same", faultWithUnit(x, 3, 8, 'e'), 5);
        Kit.due("alike", faultWithUnit(x, 3, 8, 'E'), 5);
        Kit.due("not alike", faultWithUnit(x, 3, 8, 'f'), 0);
        Kit.due("the first one like the second", faultWithUnit(x, 1, 8, 'A'), 5);
        // the same short name, with its sum: LONGNA~2 becomes LONGNA~1
        Run same = x.fork();
        same.poke(ROOT, 64 + 13, same.byteAt(ROOT, 13));
        same.poke(ROOT, 96 + 7, '1');
        Kit.due("the same short name", same.fault(), 5);
        // short names of which the last byte alone is another, or the first
        Run y = fresh();
        Kit.makeFile(y, "ABCDEFGH.IJK");
        Kit.makeFile(y, "ABCDEFGH.IJL");
        Kit.makeFile(y, "BBCDEFGH.IJK");
        Kit.due("three", y.fault(), 0);
        Kit.faults(y, ROOT, 32 + 10, 1, 5, 'K');
        Kit.faults(y, ROOT, 64, 1, 5, 'A');
        // a name may be what another one's short name shows
        Run z = fresh();
        Kit.makeFile(z, "LONGNA~2");
        Kit.makeFile(z, "long name");
        Kit.due("short name", Kit.text(z, ROOT, 64, 8), "LONGNA~1");
        unit(z, 2, 0, 'A');
        for (int i = 1; i < 13; i++) {
            unit(z, 2, i, i < 8 ? "ALONG~NA".charAt(i) : i == 8 ? 0 : 65535);
        }
        Kit.due("fault", z.fault(), 0);
        String first = "LONGNA~1";
        for (int i = 0; i < 8; i++) {
            unit(z, 2, i, first.charAt(i));
        }
        Kit.due("its own short name as its name", z.fault(), 0);
        unit(z, 2, 7, '2');
        Kit.due("another one's name", z.fault(), 5);
        // in another directory all is free again
        Run d = fresh();
        Kit.makeDirectory(d, "D");
        Kit.makeFile(d, "small");
        d.enter(0);
        Kit.due("make", Kit.makeFile(d, "small"), 0);
        Kit.due("make", Kit.makeDirectory(d, "D"), 1);
        Kit.sound(d);
    }

    private static void labels() {
        Run x = new Run(256);
        Kit.tape(x, "SAME");
        x.format(2, 8, 2, 0);
        Kit.due("a file with the label's name", Kit.makeFile(x, "SAME"), 0);
        Kit.sound(x);
        Kit.due("a second file", Kit.makeThrows(x, "SAME", false), Kit.ARGUMENT);
        x.poke(ROOT, 11, 0);
        Kit.due("the label as a file", x.fault(), 5);
        // behind the file, too
        Run y = fresh();
        Kit.makeFile(y, "SAME");
        Kit.makeFile(y, "SAMF");
        y.poke(ROOT, 32 + 11, 8);
        y.poke(ROOT, 32 + 3, 'E');
        Kit.due("a label behind the file", y.fault(), 0);
        Kit.due("items", y.items(), 1);
        y.poke(ROOT, 32 + 11, 32);
        Kit.due("as a file", y.fault(), 5);
    }

    private NameTest() {
    }
}
