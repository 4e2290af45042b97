/** What the document tells of A DIRECTORY, AN ENTRY, A DAY, a TIME and A SHORT NAME: what is not as told is fault 4. */
public final class SlotTest {
    /** Sectors of the base volume: tables 8 and 9, the root (cluster 2) 10 and 11, then two for each cluster. */
    private static final int ROOT = 10;
    private static final int DIR = 12;
    private static final int SUB = 18;

    public static void main(String[] args) {
        Kit.says("A DIRECTORY is a chain of clusters full of SLOTS of 32 bytes", SlotTest::lastSlot);
        Kit.says("those from the first one on whose byte 0 is 0 are not looked at", SlotTest::notLookedAt);
        Kit.says("one whose byte 0 is 229 is empty", SlotTest::empty);
        Kit.says("In one that is not the root the first two slots are those of \".\" and \"..\"", SlotTest::pointsAreFirst);
        Kit.says("11 bytes at 0: the points, then blanks; at 11 (1) 16", SlotTest::pointBytes);
        Kit.says("their clusters its own and its parent's first one, 0 for the root", SlotTest::pointClusters);
        Kit.says("nothing else of them counts", SlotTest::restOfPoints);
        Kit.says("A slot with 15 in the lowest six bits at 11 (1) is a PART, any other one an ENTRY.", SlotTest::kinds);
        Kit.says("1 READ ONLY, 2, 4, 8 LABEL, 16 DIRECTORY, 32 (others are 0", SlotTest::bits);
        Kit.says("LABEL stands without DIRECTORY", SlotTest::labelIsNoDirectory);
        Kit.says("at most once", SlotTest::oneLabel);
        Kit.says("in the root alone", SlotTest::labelInRoot);
        Kit.says("its first cluster and size 0", SlotTest::labelIsBare);
        Kit.says("at 12 (1) anything", SlotTest::anything);
        Kit.says("at 13 (1) HUNDREDTHS (0 .. 199)", SlotTest::hundredths);
        Kit.says("its SIZE in bytes (0 for directories)", SlotTest::sizeOfDirectories);
        Kit.says("A DAY: 512 * (year - 1980) + 32 * month + day", SlotTest::days);
        Kit.says("with leap years as in use: by 4, not by 100, but by 400", SlotTest::leapYears);
        Kit.says("a TIME: 2048 * hour + 32 * minute + half of the seconds (down)", SlotTest::times);
        Kit.says("All days of an entry may be 0 instead, but that of WRITTEN", SlotTest::noDays);
        Kit.says("what goes with a day 0 is 0, too", SlotTest::withNoDay);
        Kit.says("8 bytes and 3 bytes, each perhaps with blanks at its end alone", SlotTest::blanks);
        Kit.says("the first one is no blank", SlotTest::firstByte);
        Kit.says("others are A .. Z, 0 .. 9 or one of ! # $ % & ' ( ) - @ ^ _ ` { } ~", SlotTest::letters);
        Kit.says("a label may have blanks anywhere but at its beginning", SlotTest::labelBlanks);
        Kit.says("Shown: the 8 without blanks, and if the 3 are not blank, a point and these without blanks.",
                SlotTest::shown);
        Kit.end();
    }

    /**
     * The root has: slot 0 the label, 1 FILE (2000 bytes: clusters 4 and 5), 2 DIR (cluster 3), 3 a part, 4 "a b";
     * DIR has: slots 0 and 1 the points, 2 SUB (cluster 6), 3 a part, 4 "x y".
     */
    static Run base() {
        Run x = new Run(256);
        Kit.tape(x, "LABEL");
        x.format(2, 8, 2, 1);
        Kit.makeFile(x, "FILE");
        Kit.makeDirectory(x, "DIR");
        Kit.makeFile(x, "a b");
        x.grow(0, 2000, 1);
        x.enter(1);
        Kit.makeDirectory(x, "SUB");
        Kit.makeFile(x, "x y");
        x.up();
        Kit.due("fault of the base volume", x.fault(), 0);
        return x;
    }

    private static void slot(Run x, int slot, int at, int want, long... values) {
        Kit.faults(x, ROOT, slot * 32 + at, 1, want, values);
    }

    private static void lastSlot() {
        Run x = new Run(256);
        x.format(2, 8, 2, 0);
        for (int i = 0; i < 32; i++) {
            Kit.makeFile(x, "F" + i);
        }
        Kit.due("32 slots of a cluster of 2 sectors", x.free(), 122);
        Kit.due("items", x.items(), 32);
        Kit.faults(x, 11, 480 + 24, 1, 4, 0);
        Kit.makeFile(x, "G");
        Kit.due("the next one wants a cluster", x.free(), 121);
        Kit.faults(x, 12, 24, 1, 4, 0);
        Kit.faults(x, 12, 32, 1, 4, 'A');
        // the last slot of the last cluster, behind empty ones
        for (int slot = 1; slot < 31; slot++) {
            x.poke(12 + slot / 16, slot % 16 * 32, 229);
        }
        Kit.due("fault", x.fault(), 0);
        Kit.faults(x, 13, 480, 1, 4, 'A');
        Kit.faults(x, 13, 480, 1, 0, 229);
    }

    private static void notLookedAt() {
        Run x = base();
        for (int at = 1; at < 32; at++) {
            slot(x, 5, at, 0, 1, 255);
        }
        slot(x, 6, 0, 0, 1, 'A', '.', 229, 255);
        Kit.faults(x, 11, 480, 1, 0, 1, 255);
        slot(x, 5, 0, 4, 1, 'A', '.', 228, 230, 255);
        // what stands behind does not count any more: the clusters of FILE are lost then
        slot(x, 1, 0, 6, 0);
        // the label and FILE are left: DIR's clusters are lost
        slot(x, 2, 0, 6, 0);
        // SUB's are
        Kit.faults(x, DIR, 64, 1, 6, 0);
        Kit.faults(x, DIR, 96, 1, 0, 0);
        Run cut = x.fork();
        cut.poke(ROOT, 96, 0);
        Kit.due("fault", cut.fault(), 0);
        Kit.due("items", cut.items(), 2);
    }

    private static void empty() {
        Run x = base();
        slot(x, 5, 0, 0, 229);
        slot(x, 0, 0, 0, 229);
        slot(x, 1, 0, 6, 229);
        slot(x, 3, 0, 0, 229);
        Run y = x.fork();
        y.poke(ROOT, 96, 229);
        for (int at = 1; at < 32; at++) {
            Kit.faults(y, ROOT, 96 + at, 1, 0, 0, 255);
        }
        Kit.due("what is behind it counts", y.items(), 3);
        Kit.due("its short name is its name now", Kit.nameOf(y, 2), "AB~1");
    }

    private static void pointsAreFirst() {
        Run x = base();
        for (int sector : new int[] {DIR, SUB}) {
            Kit.faults(x, sector, 0, 1, 4, 0, 229, ' ', 'A');
            Kit.faults(x, sector, 32, 1, 4, 0, 229, ' ', 'A');
            Run swapped = x.fork();
            swapped.poke(sector, 1, '.');
            swapped.poke(sector, 33, ' ');
            Kit.due("the other way round", swapped.fault(), 4);
        }
        // nowhere else, and not in the root
        slot(x, 1, 0, 4, '.');
        Run third = x.fork();
        for (int i = 0; i < 32; i++) {
            third.poke(DIR, 64 + i, x.byteAt(DIR, i));
        }
        Kit.due("a third one", third.fault(), 4);
        Run root = x.fork();
        for (int i = 0; i < 32; i++) {
            root.poke(ROOT, i, x.byteAt(DIR, i));
        }
        Kit.due("one in the root", root.fault(), 4);
    }

    private static void pointBytes() {
        Run x = base();
        for (int sector : new int[] {DIR, SUB}) {
            for (int slot = 0; slot < 2; slot++) {
                for (int i = 0; i < 11; i++) {
                    Kit.faults(x, sector, 32 * slot + i, 1, 4, i <= slot ? ' ' : '.', 0, 'A');
                }
                Kit.faults(x, sector, 32 * slot + 11, 1, 0, 16);
                Kit.faults(x, sector, 32 * slot + 11, 1, 4, 0, 8, 15, 17, 18, 20, 24, 32, 48, 80, 144);
            }
        }
    }

    private static void pointClusters() {
        Run x = base();
        // DIR is cluster 3, SUB cluster 6
        Kit.faults(x, DIR, 26, 2, 0, 3);
        Kit.faults(x, DIR, 26, 2, 4, 0, 2, 4, 6, 256 + 3, 32768 + 3);
        Kit.faults(x, DIR, 20, 2, 4, 1, 256);
        Kit.faults(x, DIR, 32 + 26, 2, 0, 0);
        Kit.faults(x, DIR, 32 + 26, 2, 4, 2, 3, 6);
        Kit.faults(x, DIR, 32 + 20, 2, 4, 1, 256);
        Kit.faults(x, SUB, 26, 2, 4, 0, 2, 3);
        Kit.faults(x, SUB, 32 + 26, 2, 0, 3);
        Kit.faults(x, SUB, 32 + 26, 2, 4, 0, 2, 6);
    }

    private static void restOfPoints() {
        Run x = base();
        for (int sector : new int[] {DIR, SUB}) {
            for (int slot = 0; slot < 2; slot++) {
                for (int at : new int[] {12, 13, 14, 15, 16, 17, 18, 19, 22, 23, 24, 25, 28, 29, 30, 31}) {
                    Kit.faults(x, sector, 32 * slot + at, 1, 0, 0, 1, 255);
                }
            }
        }
    }

    private static void kinds() {
        Run x = base();
        // the part of "a b": its two highest bits do not count; as an entry it is not as told
        slot(x, 3, 11, 0, 15, 64 + 15, 128 + 15, 192 + 15);
        slot(x, 3, 11, 4, 0, 7, 14, 16 + 15, 32 + 15, 48 + 15);
        // an entry that becomes a part has nothing that belongs to it
        slot(x, 1, 11, 4, 15, 64 + 15, 128 + 15, 192 + 15);
        // LABEL with all but DIRECTORY, and 32: no part
        slot(x, 0, 11, 0, 32 + 15);
        slot(x, 0, 11, 4, 15);
    }

    private static void bits() {
        Run x = base();
        Kit.makeFile(x, "EMPTY");
        for (int bits = 0; bits < 256; bits++) {
            // with LABEL it is a second one, or a part; with DIRECTORY its cluster is none
            boolean asEntry = bits < 64 && (bits & 8) == 0;
            slot(x, 5, 11, !asEntry ? 4 : (bits & 16) != 0 ? 3 : 0, bits);
        }
        slot(x, 2, 11, 0, 16, 17, 18, 20, 23, 48, 55);
        slot(x, 2, 11, 4, 16 + 64, 16 + 128);
    }

    private static void labelIsNoDirectory() {
        Run x = base();
        slot(x, 0, 11, 0, 8, 9, 10, 12, 14, 40, 41, 46, 47);
        slot(x, 0, 11, 4, 24, 25, 31, 56, 63);
        slot(x, 2, 11, 4, 24, 56);
    }

    private static void oneLabel() {
        Run x = base();
        Kit.makeFile(x, "EMPTY");
        slot(x, 5, 11, 4, 8, 40);
        Run none = x.fork();
        none.poke(ROOT, 0, 229);
        slot(none, 5, 11, 0, 8, 40);
        Kit.makeFile(none, "OTHER");
        Kit.due("the first slot", Kit.text(none, ROOT, 0, 5), "OTHER");
        slot(none, 5, 11, 0, 8);
        none.poke(ROOT, 11, 8);
        slot(none, 5, 11, 4, 8);
    }

    private static void labelInRoot() {
        Run x = base();
        x.poke(ROOT, 0, 229);
        x.enter(1);
        Kit.makeFile(x, "EMPTY");
        Kit.due("its slot", Kit.text(x, DIR, 160, 5), "EMPTY");
        Kit.faults(x, DIR, 160 + 11, 1, 0, 0, 32);
        Kit.faults(x, DIR, 160 + 11, 1, 4, 8, 40);
    }

    private static void labelIsBare() {
        Run x = base();
        Kit.faults(x, ROOT, 20, 2, 4, 1, 256, 32768);
        Kit.faults(x, ROOT, 26, 2, 4, 1, 3, 50, 256);
        Kit.faults(x, ROOT, 28, 4, 4, 1, 256, 65536, 1L << 31);
    }

    private static void anything() {
        Run x = base();
        for (int slot : new int[] {0, 1, 2, 4}) {
            slot(x, slot, 12, 0, 0, 1, 8, 24, 127, 128, 255);
        }
    }

    private static void hundredths() {
        Run x = base();
        Kit.poke(x, ROOT, 32 + 16, 2, 33);
        slot(x, 1, 13, 0, 0, 1, 99, 100, 198, 199);
        slot(x, 1, 13, 4, 200, 201, 254, 255);
    }

    private static void sizeOfDirectories() {
        Run x = base();
        Kit.faults(x, ROOT, 64 + 28, 4, 0, 0);
        Kit.faults(x, ROOT, 64 + 28, 4, 4, 1, 1024, 65536, 1L << 31, -1);
        Kit.faults(x, DIR, 64 + 28, 4, 4, 1);
    }

    /** MADE, READ and WRITTEN of FILE. */
    private static final int[] DAYS = {32 + 16, 32 + 18, 32 + 24};

    private static int day(int year, int month, int day) {
        return 512 * (year - 1980) + 32 * month + day;
    }

    private static void days() {
        Run x = base();
        int[] most = {31, 28, 31, 30, 31, 30, 31, 31, 30, 31, 30, 31};
        for (int at : DAYS) {
            for (int month = 1; month <= 12; month++) {
                Kit.faults(x, ROOT, at, 2, 0, day(2001, month, 1), day(2001, month, most[month - 1]));
                Kit.faults(x, ROOT, at, 2, 4, day(2001, month, 0));
                if (most[month - 1] < 31) {
                    Kit.faults(x, ROOT, at, 2, 4, day(2001, month, most[month - 1] + 1));
                }
            }
            Kit.faults(x, ROOT, at, 2, 0, day(1980, 1, 1), day(2107, 12, 31));
            Kit.faults(x, ROOT, at, 2, 4, day(1980, 0, 1), day(1980, 0, 31), day(1980, 13, 1), day(1980, 15, 31), day(2107, 13, 1),
                    day(2107, 15, 31), day(2001, 0, 0), day(2001, 0, 1));
        }
    }

    private static void leapYears() {
        Run x = base();
        for (int at : DAYS) {
            for (int year = 1980; year <= 2107; year++) {
                boolean leap = year % 4 == 0 && year != 2100;
                Kit.faults(x, ROOT, at, 2, leap ? 0 : 4, day(year, 2, 29));
            }
            Kit.faults(x, ROOT, at, 2, 4, day(2000, 2, 30), day(2100, 2, 30));
            Kit.faults(x, ROOT, at, 2, 0, day(2100, 2, 28));
        }
    }

    private static int time(int hour, int minute, int half) {
        return 2048 * hour + 32 * minute + half;
    }

    private static void times() {
        Run x = base();
        Kit.poke(x, ROOT, 32 + 16, 2, 33);
        for (int at : new int[] {32 + 14, 32 + 22}) {
            Kit.faults(x, ROOT, at, 2, 0, 0, time(23, 59, 29), time(0, 0, 29), time(0, 59, 0), time(23, 0, 0));
            Kit.faults(x, ROOT, at, 2, 4, time(0, 0, 30), time(0, 0, 31), time(0, 60, 0), time(0, 63, 0), time(24, 0, 0),
                    time(31, 0, 0), time(31, 63, 31), time(23, 59, 30), time(23, 60, 29), time(24, 59, 29));
        }
    }

    private static void noDays() {
        Run x = base();
        Kit.poke(x, ROOT, 32 + 16, 2, 33);
        Kit.poke(x, ROOT, 32 + 18, 2, 33);
        Kit.due("both days", x.fault(), 0);
        Kit.faults(x, ROOT, 32 + 16, 2, 0, 0);
        Kit.faults(x, ROOT, 32 + 18, 2, 0, 0);
        Kit.faults(x, ROOT, 32 + 16, 4, 0, 0);
        Kit.faults(x, ROOT, 32 + 24, 2, 4, 0);
        // of a label and of a directory as well
        Kit.faults(x, ROOT, 24, 2, 4, 0);
        Kit.faults(x, ROOT, 64 + 24, 2, 4, 0);
    }

    private static void withNoDay() {
        Run x = base();
        Kit.faults(x, ROOT, 32 + 14, 2, 4, 1, 32, 2048, time(23, 59, 29));
        slot(x, 1, 13, 4, 1, 100, 199);
        Kit.poke(x, ROOT, 32 + 16, 2, 33);
        Kit.faults(x, ROOT, 32 + 14, 2, 0, 1, time(23, 59, 29));
        slot(x, 1, 13, 0, 1, 199);
        // the label's, too
        Kit.faults(x, ROOT, 13, 1, 4, 1);
    }

    private static void blanks() {
        Run x = base();
        // FILE and four blanks, then three
        slot(x, 1, 3, 0, ' ');
        slot(x, 1, 2, 4, ' ');
        slot(x, 1, 1, 4, ' ');
        slot(x, 1, 4, 0, 'X');
        slot(x, 1, 5, 4, 'X');
        slot(x, 1, 7, 4, 'X');
        slot(x, 1, 8, 0, 'X');
        slot(x, 1, 9, 4, 'X');
        slot(x, 1, 10, 4, 'X');
        for (int i = 4; i < 11; i++) {
            x.poke(ROOT, 32 + i, 'X');
        }
        Kit.due("no blank", x.fault(), 0);
        slot(x, 1, 10, 0, ' ');
        slot(x, 1, 9, 4, ' ');
        slot(x, 1, 8, 4, ' ');
        slot(x, 1, 7, 0, ' ');
        slot(x, 1, 6, 4, ' ');
    }

    private static void firstByte() {
        Run x = base();
        slot(x, 1, 0, 4, ' ');
        Run blank = x.fork();
        for (int i = 0; i < 4; i++) {
            blank.poke(ROOT, 32 + i, ' ');
        }
        Kit.due("eleven blanks", blank.fault(), 4);
        blank.poke(ROOT, 32 + 8, 'X');
        Kit.due("eight blanks and three others", blank.fault(), 4);
    }

    private static void letters() {
        Run x = base();
        String may = "ABCDEFGHIJKLMNOPQRSTUVWXYZ0123456789!#$%&'()-@^_`{}~";
        for (int c = 1; c < 256; c++) {
            boolean fine = may.indexOf(c) >= 0;
            slot(x, 1, 0, fine ? 0 : c == 229 ? 6 : 4, c);
            slot(x, 1, 4, fine || c == ' ' ? 0 : 4, c);
            slot(x, 1, 8, fine || c == ' ' ? 0 : 4, c);
            // in a label a blank may stand in the middle; the file that it would be then is another one
            slot(x, 0, 2, fine || c == ' ' ? 0 : 4, c);
        }
        slot(x, 1, 4, 4, 0);
        slot(x, 1, 10, 4, 0);
    }

    private static void labelBlanks() {
        Run x = base();
        for (int i = 1; i < 5; i++) {
            slot(x, 0, i, 0, ' ');
        }
        for (int i = 5; i < 11; i++) {
            slot(x, 0, i, 0, 'X');
        }
        slot(x, 0, 0, 4, ' ');
        // LABEL as a file may not
        x.poke(ROOT, 11, 0);
        slot(x, 0, 2, 4, ' ');
        slot(x, 0, 6, 4, 'X');
    }

    private static void shown() {
        String[][] cases = {{"A", "A          "}, {"A.B", "A       B  "}, {"ABCDEFGH", "ABCDEFGH   "},
            {"ABCDEFGH.IJK", "ABCDEFGHIJK"}, {"ABCDEFG.IJ", "ABCDEFG IJ "}, {"A.BCD", "A       BCD"}};
        for (String[] c : cases) {
            Run x = base();
            for (int i = 0; i < 11; i++) {
                x.poke(ROOT, 32 + i, c[1].charAt(i));
            }
            Kit.due("shown", Kit.nameOf(x, 0), c[0]);
            Kit.due("no parts", x.about(0, 6), 0);
            // so that the same is alike
            Kit.due("make", Kit.makeThrows(x, c[0].toLowerCase(), false), Kit.ARGUMENT);
        }
    }

    private SlotTest() {
    }
}
