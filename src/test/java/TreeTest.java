/** Promises 10 items, 11 letter, 12 about, 13 content, 14 enter, 15 up. */
public final class TreeTest {
    public static void main(String[] args) {
        Kit.says("How many items are here.", TreeTest::items);
        Kit.says("Byte i of the name of item k here", TreeTest::letters);
        Kit.says("a unit below 128 is one byte, below 2048 two, else three: 110xxxxx, 1110xxxx first, 10xxxxxx behind",
                TreeTest::encoded);
        Kit.says("NONE behind its end", TreeTest::behindTheName);
        Kit.says("0 whether it is a directory (1 or 0), 1 whether it is READ ONLY", TreeTest::bits);
        Kit.says("2, 3, 4 READ, MADE, WRITTEN in seconds from 1 January 1970 on", TreeTest::seconds);
        Kit.says("READ at 0:00", TreeTest::readAtMidnight);
        Kit.says("MADE with HUNDREDTHS / 100 (down) more", TreeTest::hundredths);
        Kit.says("WRITTEN in place of those whose day is 0", TreeTest::inPlace);
        Kit.says("5 its size, 6 how many parts its name has", TreeTest::sizeAndParts);
        Kit.says("IllegalArgumentException for another what.", TreeTest::otherWhat);
        Kit.says("A byte of file k here", TreeTest::content);
        Kit.says("NONE if it is a directory, or has none such", TreeTest::noContent);
        Kit.says("Directory k here becomes HERE: how many items it has.", TreeTest::enter);
        Kit.says("IllegalArgumentException if it is a file.", TreeTest::enterFile);
        Kit.says("The parent of HERE becomes HERE; false if it is the root.", TreeTest::up);
        Kit.says("THE TREE: the root and all that its directories have (no labels, \".\" and \"..\")", TreeTest::tree);
        Kit.end();
    }

    private static Run made(int sectors) {
        Run x = new Run(sectors);
        x.format(2, 8, 2, 0);
        return x;
    }

    private static void items() {
        Run x = new Run(256);
        Kit.tape(x, "LABEL");
        x.format(2, 8, 2, 0);
        Kit.due("the label is none", x.items(), 0);
        Kit.makeFile(x, "ONE");
        Kit.makeDirectory(x, "two and more");
        Kit.due("two", x.items(), 2);
        Kit.due("points are none", x.enter(1), 0);
        Kit.due("points are none", x.items(), 0);
        x.up();
        x.remove(0);
        Kit.due("one less", x.items(), 1);
        Kit.due("the other one", Kit.nameOf(x, 0), "two and more");
        Run many = made(1024);
        for (int i = 0; i < 160; i++) {
            Kit.due("make", Kit.makeFile(many, "files " + i), i);
        }
        Kit.due("many", many.items(), 160);
        Kit.due("the last one", Kit.nameOf(many, 159), "files 159");
        Kit.sound(many);
    }

    private static void letters() {
        String[] names = {"A", "AB.C", "ABCDEFGH.IJK", "small", "x".repeat(255), "\u65e5".repeat(255), " lead", "thirteen unit"};
        for (String name : names) {
            Run x = made(256);
            Kit.makeFile(x, "FIRST");
            Kit.makeFile(x, name);
            byte[] bytes = name.getBytes(java.nio.charset.StandardCharsets.UTF_8);
            for (int i = 0; i < bytes.length; i++) {
                Kit.due("letter " + i, x.letter(1, i), bytes[i] & 255);
            }
            Kit.due("behind it", x.letter(1, bytes.length), TableVolumes.NONE);
            Kit.due("the other one", x.letter(0, 4), 'T');
        }
        Run x = made(256);
        Kit.makeDirectory(x, "D");
        Kit.due("a directory's", x.letter(0, 0), 'D');
        x.enter(0);
        Kit.makeFile(x, "E");
        Kit.due("here", x.letter(0, 0), 'E');
    }

    private static void encoded() {
        Run x = made(256);
        Kit.makeFile(x, "\u007e\u0080\u07ff\u0800\ufffd\ud7ff\ue000\u00ff\u0100\u1000");
        int[] wanted = {0x7E, 0xC2, 0x80, 0xDF, 0xBF, 0xE0, 0xA0, 0x80, 0xEF, 0xBF, 0xBD, 0xED, 0x9F, 0xBF, 0xEE, 0x80, 0x80, 0xC3,
            0xBF, 0xC4, 0x80, 0xE1, 0x80, 0x80};
        for (int i = 0; i < wanted.length; i++) {
            Kit.due("byte " + i, x.letter(0, i), wanted[i]);
        }
        Kit.due("behind it", x.letter(0, wanted.length), TableVolumes.NONE);
    }

    private static void behindTheName() {
        Run x = made(256);
        String[] names = {"A", "A.B", "small", "\u65e5", "x".repeat(255)};
        int[] lengths = {1, 3, 5, 3, 255};
        for (int k = 0; k < names.length; k++) {
            Kit.makeFile(x, names[k]);
            Kit.holds("the last byte", x.letter(k, lengths[k] - 1) != TableVolumes.NONE);
            for (int i : new int[] {lengths[k], lengths[k] + 1, 765, 1000, Integer.MAX_VALUE}) {
                Kit.due("letter " + i + " of " + k, x.letter(k, i), TableVolumes.NONE);
            }
            // no byte has such a number either
            Kit.due("letter -1", x.letter(k, -1), TableVolumes.NONE);
            Kit.due("the least", x.letter(k, Integer.MIN_VALUE), TableVolumes.NONE);
        }
    }

    private static void bits() {
        Run x = made(256);
        Kit.makeFile(x, "F");
        Kit.makeDirectory(x, "D");
        Kit.due("a file", x.about(0, 0), 0);
        Kit.due("a directory", x.about(1, 0), 1);
        for (int k = 0; k < 2; k++) {
            Kit.due("not read only", x.about(k, 1), 0);
            Run y = x.fork();
            y.poke(10, 32 * k + 11, 39 + 16 * k);
            Kit.due("read only", y.about(k, 1), 1);
            Kit.due("its kind", y.about(k, 0), k);
            y.poke(10, 32 * k + 11, 38 + 16 * k);
            Kit.due("other bits", y.about(k, 1), 0);
            y.poke(10, 32 * k + 11, 1 + 16 * k);
            Kit.due("no other bit", y.about(k, 1), 1);
        }
    }

    private static int day(int year, int month, int day) {
        return 512 * (year - 1980) + 32 * month + day;
    }

    private static long secondsOf(int year, int month, int day, int hour, int minute, int second) {
        return java.time.LocalDateTime.of(year, month, day, hour, minute, second).toEpochSecond(java.time.ZoneOffset.UTC);
    }

    private static void seconds() {
        Run x = made(256);
        Kit.makeFile(x, "F");
        for (int what = 2; what <= 4; what++) {
            Kit.due("1 January 1980", x.about(0, what), 315532800L);
        }
        int[][] days = {{1980, 1, 1}, {1980, 2, 29}, {1980, 3, 1}, {1980, 12, 31}, {1981, 1, 1}, {1999, 12, 31}, {2000, 1, 1},
            {2000, 2, 29}, {2000, 3, 1}, {2001, 3, 7}, {2026, 11, 16}, {2038, 1, 19}, {2038, 1, 20}, {2099, 12, 31}, {2100, 2, 28},
            {2100, 3, 1}, {2104, 2, 29}, {2106, 2, 8}, {2107, 12, 31}};
        int[][] times = {{0, 0, 0}, {0, 0, 58}, {0, 59, 0}, {23, 0, 0}, {13, 45, 2}, {23, 59, 58}};
        for (int[] d : days) {
            for (int[] t : times) {
                Run y = x.fork();
                int day = day(d[0], d[1], d[2]);
                int time = 2048 * t[0] + 32 * t[1] + t[2] / 2;
                y.stamp(0, 2, day, time);
                y.stamp(0, 0, day, time);
                y.stamp(0, 1, day, 0);
                Kit.due("WRITTEN", y.about(0, 4), secondsOf(d[0], d[1], d[2], t[0], t[1], t[2]));
                Kit.due("MADE", y.about(0, 3), secondsOf(d[0], d[1], d[2], t[0], t[1], t[2]));
                Kit.due("READ", y.about(0, 2), secondsOf(d[0], d[1], d[2], 0, 0, 0));
            }
        }
        for (int month = 1; month <= 12; month++) {
            x.stamp(0, 2, day(2023, month, 28), 0);
            Kit.due("month " + month, x.about(0, 4), secondsOf(2023, month, 28, 0, 0, 0));
            x.stamp(0, 2, day(2024, month, 29), 0);
            Kit.due("month " + month + " of a leap year", x.about(0, 4), secondsOf(2024, month, 29, 0, 0, 0));
        }
    }

    private static void readAtMidnight() {
        Run x = made(256);
        Kit.makeFile(x, "F");
        x.stamp(0, 2, day(2001, 3, 7), 13 * 2048 + 45 * 32 + 29);
        x.stamp(0, 0, day(2001, 3, 8), 14 * 2048);
        x.stamp(0, 1, day(2107, 12, 31), 0);
        Kit.due("READ", x.about(0, 2), 4354732800L);
    }

    private static void hundredths() {
        Run x = made(256);
        Kit.makeFile(x, "F");
        x.stamp(0, 0, day(2000, 2, 29), 1);
        int[][] cases = {{0, 0}, {1, 0}, {99, 0}, {100, 1}, {101, 1}, {199, 1}};
        for (int[] c : cases) {
            x.stamp(0, 3, 0, c[0]);
            Kit.due(c[0] + " hundredths", x.about(0, 3), 951782402L + c[1]);
            Kit.due("of MADE alone", x.about(0, 4), 315532800L);
            Kit.due("of MADE alone", x.about(0, 2), 315532800L);
        }
        // over the end of a day
        x.stamp(0, 0, day(2000, 2, 29), 23 * 2048 + 59 * 32 + 29);
        Kit.due("the last second of a day", x.about(0, 3), secondsOf(2000, 2, 29, 23, 59, 59));
    }

    private static void inPlace() {
        Run x = made(256);
        Kit.makeDirectory(x, "D");
        x.stamp(0, 2, day(2001, 3, 7), 13 * 2048 + 45 * 32 + 29);
        for (int what = 2; what <= 4; what++) {
            Kit.due("WRITTEN with its time", x.about(0, what), 983972758L);
        }
        x.stamp(0, 0, day(1990, 1, 1), 5);
        Kit.due("READ has no day", x.about(0, 2), 983972758L);
        Kit.due("MADE has one", x.about(0, 3), secondsOf(1990, 1, 1, 0, 0, 10));
        x.stamp(0, 1, day(1991, 1, 1), 0);
        x.stamp(0, 0, 0, 0);
        Kit.due("READ has one", x.about(0, 2), secondsOf(1991, 1, 1, 0, 0, 0));
        Kit.due("MADE has none", x.about(0, 3), 983972758L);
    }

    private static void sizeAndParts() {
        Run x = made(256);
        Kit.makeFile(x, "F");
        Kit.makeDirectory(x, "a directory of two");
        Kit.due("no parts", x.about(0, 6), 0);
        Kit.due("parts", x.about(1, 6), 2);
        Kit.due("size 0", x.about(0, 5), 0);
        Kit.due("size of a directory", x.about(1, 5), 0);
        for (int size : new int[] {1, 255, 256, 1024, 65535, 65536, 121 * 1024}) {
            x.grow(0, size - (int) x.about(0, 5), 3);
            Kit.due("size", x.about(0, 5), size);
        }
        Run most = made(256);
        Kit.makeFile(most, "n".repeat(255));
        Kit.due("20 parts", most.about(0, 6), 20);
    }

    private static void otherWhat() {
        Run x = made(256);
        Kit.makeFile(x, "F");
        for (int what : new int[] {-1, 7, 8, 100, 256, Integer.MIN_VALUE, Integer.MAX_VALUE}) {
            Kit.throwsDue("about " + what, () -> x.about(0, what), Kit.ARGUMENT);
            Kit.throwsDue("about " + what, () -> x.about(1, what), Kit.INDEX);
        }
        for (int what = 0; what <= 6; what++) {
            int w = what;
            Kit.throwsDue("about " + what, () -> x.about(0, w), Kit.NOTHING);
        }
    }

    private static void content() {
        for (int c = 2; c <= 8; c *= 2) {
            Run x = new Run(256);
            x.format(c, 8, 2, 0);
            Kit.makeFile(x, "F");
            Kit.makeFile(x, "G");
            // clusters of both by turns
            for (int i = 0; i < 5; i++) {
                x.grow(0, 512 * c, 9 + i);
                x.grow(1, 512 * c, 50 + i);
            }
            for (int i = 0; i < 5; i++) {
                for (int at : new int[] {0, 1, 511, 512, 512 * c - 1}) {
                    int byItself = at * at + (at >> 8);
                    Kit.due("byte " + at + " of part " + i, x.content(0, 512 * c * i + at), (9 + i + byItself) & 255);
                    Kit.due("byte " + at + " of part " + i, x.content(1, 512 * c * i + at), (50 + i + byItself) & 255);
                }
            }
        }
    }

    private static void noContent() {
        Run x = made(256);
        Kit.makeFile(x, "F");
        Kit.makeDirectory(x, "D");
        int[] wild = {-1, -1024, Integer.MIN_VALUE, Integer.MAX_VALUE, 1 << 20};
        for (int k = 0; k < 2; k++) {
            Kit.due("an empty file, a directory", x.content(k, 0), TableVolumes.NONE);
            for (int at : wild) {
                Kit.due("byte " + at, x.content(k, at), TableVolumes.NONE);
            }
        }
        for (int size : new int[] {1, 1023, 1024, 1025, 5000}) {
            x.grow(0, size - (int) x.about(0, 5), 9);
            Kit.holds("the last byte", x.content(0, size - 1) >= 0);
            Kit.due("one behind it", x.content(0, size), TableVolumes.NONE);
            for (int at : wild) {
                Kit.due("byte " + at, x.content(0, at), TableVolumes.NONE);
            }
        }
        x.cut(0, 3);
        Kit.due("what was cut", x.content(0, 3), TableVolumes.NONE);
        Kit.throwsDue("no such item", () -> x.content(2, 0), Kit.INDEX);
        Kit.throwsDue("no such item", () -> x.content(-1, 0), Kit.INDEX);
    }

    private static void enter() {
        Run x = made(256);
        Kit.makeFile(x, "F");
        Kit.makeDirectory(x, "D");
        Kit.due("enter", x.enter(1), 0);
        Kit.makeFile(x, "IN D");
        Kit.makeDirectory(x, "E");
        Kit.due("enter the next", x.enter(1), 0);
        Kit.makeFile(x, "IN E");
        x.up();
        Kit.due("enter again", x.enter(1), 1);
        Kit.due("now in E", Kit.nameOf(x, 0), "IN E");
        x.up();
        x.up();
        Kit.due("enter D", x.enter(1), 2);
        Kit.throwsDue("nothing there", () -> x.enter(2), Kit.INDEX);
        Kit.throwsDue("nothing there", () -> x.enter(-1), Kit.INDEX);
        Kit.due("still in D", x.items(), 2);
    }

    private static void enterFile() {
        Run x = made(256);
        Kit.makeFile(x, "F");
        Kit.makeDirectory(x, "D");
        Kit.throwsDue("a file", () -> x.enter(0), Kit.ARGUMENT);
        Kit.due("HERE is as before", x.items(), 2);
        x.grow(0, 5, 5);
        Kit.throwsDue("a file with bytes", () -> x.enter(0), Kit.ARGUMENT);
        Kit.throwsDue("no such item", () -> x.enter(2), Kit.INDEX);
    }

    private static void up() {
        Run x = made(256);
        Kit.holds("the root", !x.up());
        Kit.holds("again", !x.up());
        nest(x, 60);
        Run all = new Run(256);
        all.format(8, 64, 2, 0);
        nest(all, all.free());
        Kit.due("one for each cluster", all.free(), 0);
        // from a directory that is not the first one of its parent
        Run y = made(256);
        Kit.makeDirectory(y, "A");
        Kit.makeDirectory(y, "B");
        y.enter(1);
        Kit.makeDirectory(y, "C");
        Kit.makeDirectory(y, "D");
        y.enter(1);
        Kit.holds("up", y.up());
        Kit.due("in B", Kit.nameOf(y, 1), "D");
        Kit.holds("up", y.up());
        Kit.due("in the root", Kit.nameOf(y, 1), "B");
        Kit.holds("no further", !y.up());
        Kit.due("still in the root", Kit.nameOf(y, 1), "B");
    }

    private static void nest(Run x, int depth) {
        for (int i = 0; i < depth; i++) {
            Kit.makeDirectory(x, "D" + i);
            Kit.due("enter", x.enter(0), 0);
        }
        Kit.sound(x);
        Run down = x.fork();
        down.poke(7, 0, 1);
        for (int i = 0; i < depth; i++) {
            Kit.due("name " + i, Kit.nameOf(down, 0), "D" + i);
            down.enter(0);
        }
        for (int i = 0; i < depth; i++) {
            Kit.holds("up", x.up());
        }
        Kit.holds("the root", !x.up());
    }

    private static void tree() {
        Run x = new Run(256);
        Kit.tape(x, "LABEL");
        x.format(2, 8, 2, 0);
        Kit.makeFile(x, "A");
        Kit.makeDirectory(x, "b with parts");
        Kit.makeFile(x, "C");
        Kit.due("in the order of slots", Kit.nameOf(x, 0) + Kit.nameOf(x, 1) + Kit.nameOf(x, 2), "Ab with partsC");
        x.remove(0);
        Kit.makeFile(x, "D");
        Kit.due("in the order of slots", Kit.nameOf(x, 0) + Kit.nameOf(x, 1) + Kit.nameOf(x, 2), "Db with partsC");
        // a label between the others
        Run y = x.fork();
        y.poke(10, 0, 229);
        y.poke(10, 128 + 11, 8);
        Kit.due("C is the label", y.items(), 2);
        Kit.due("the last", Kit.nameOf(y, 1), "b with parts");
        Kit.throwsDue("no third", () -> y.about(2, 0), Kit.INDEX);
    }

    private TreeTest() {
    }
}
