/** Promises 2 feed, 3 end, 4 clear, and what the document tells of THE TAPE. */
public final class TapeTest {
    public static void main(String[] args) {
        Kit.says("Puts twenty bytes ready, those of a first, the highest of each first.", TapeTest::order);
        Kit.says("(They are 0 at first, and behind each end() that answers a number.)", TapeTest::zeros);
        Kit.says("The first n of the bytes that are ready come to the tape: how many it has.", TapeTest::firstOnes);
        Kit.says("NONE, and nothing comes, if n is not 0 .. 20", TapeTest::wrongNumbers);
        Kit.says("or it would have more than 4096.", TapeTest::full);
        Kit.says("The tape is empty.", TapeTest::clear);
        Kit.says("used up by the call that reads it, whatever comes of it.", TapeTest::usedUp);
        Kit.says("which is used up also by a call that throws", TapeTest::usedUpByThrow);
        Kit.says("THE TAPE: at most 4096 bytes, used up by the call that reads it", TapeTest::notRead);
        Kit.end();
    }

    private static Run withFile() {
        Run x = new Run(256);
        x.format(2, 8, 2, 0);
        Kit.makeFile(x, "F");
        return x;
    }

    private static String written(Run x) {
        int from = (int) x.about(0, 5);
        int to = x.write(0);
        StringBuilder text = new StringBuilder();
        for (int i = from; i < to; i++) {
            text.append((char) x.content(0, i));
        }
        return text.toString();
    }

    private static void order() {
        Run x = withFile();
        x.feed(0x01020304, 0x05060708, 0x090A0B0C, 0x0D0E0F10, 0x818283FF);
        x.end(20);
        Kit.due("bytes", written(x),
                "\1\2\3\4\5\6\7\10\11\12\13\14\15\16\17\20\u0081\u0082\u0083\u00ff");
        // a second feed takes the place of the first
        x.feed(-1, -1, -1, -1, -1);
        x.feed(0x41424344, 0, 0, 0, 0x45464748);
        x.end(20);
        Kit.due("bytes", written(x), "ABCD" + "\0".repeat(12) + "EFGH");
        x.feed(Integer.MIN_VALUE, Integer.MAX_VALUE, 0, 0, 0);
        x.end(8);
        Kit.due("bytes", written(x), "\u0080\0\0\0\u007f\u00ff\u00ff\u00ff");
    }

    private static void zeros() {
        Run x = withFile();
        // the file was named by a feed, so a new object is needed for what is at first
        Run first = new Run(256);
        Kit.due("end", first.end(4), 4);
        Kit.throwsDue("four bytes that are 0 are no label", () -> first.format(2, 8, 2, 0), Kit.ARGUMENT);
        x.feed(0x41424344, -1, -1, -1, -1);
        Kit.due("end", x.end(4), 4);
        Kit.due("0 again", x.end(20), 24);
        Kit.due("bytes", written(x), "ABCD" + "\0".repeat(20));
        x.feed(-1, -1, -1, -1, -1);
        Kit.due("end(0) answers a number", x.end(0), 0);
        Kit.due("so they are 0", x.end(20), 20);
        Kit.due("bytes", written(x), "\0".repeat(20));
        // an end that answers none leaves them
        x.feed(0x41424344, 0, 0, 0, 0);
        Kit.due("none", x.end(21), TableVolumes.NONE);
        Kit.due("none", x.end(-1), TableVolumes.NONE);
        Kit.due("they are ready still", x.end(4), 4);
        Kit.due("bytes", written(x), "ABCD");
        // and so do clear and the calls that use the tape up
        x.feed(0x41424344, 0, 0, 0, 0);
        x.clear();
        x.write(0);
        Kit.throwsDue("make", () -> x.make(false), Kit.ARGUMENT);
        Kit.due("end", x.end(4), 4);
        Kit.due("bytes", written(x), "ABCD");
    }

    private static void firstOnes() {
        Run x = withFile();
        for (int n = 0; n <= 20; n++) {
            x.feed(0x41424344, 0x45464748, 0x494A4B4C, 0x4D4E4F50, 0x51525354);
            Kit.due("end(" + n + ")", x.end(n), n);
            Kit.due("bytes", written(x), "ABCDEFGHIJKLMNOPQRST".substring(0, n));
        }
        Kit.due("one", x.end(1), 1);
        Kit.due("and two", x.end(2), 3);
        Kit.due("and none", x.end(0), 3);
        Kit.due("and twenty", x.end(20), 23);
    }

    private static void wrongNumbers() {
        Run x = withFile();
        x.feed(0x41424344, 0, 0, 0, 0);
        x.end(2);
        for (int n : new int[] {-1, 21, 22, 256, 4096, -20, Integer.MIN_VALUE, Integer.MAX_VALUE}) {
            Kit.due("end(" + n + ")", x.end(n), TableVolumes.NONE);
        }
        Kit.due("nothing came", Kit.tapeLength(x), 2);
        Kit.due("bytes", written(x), "AB");
    }

    private static void full() {
        Run x = withFile();
        for (int i = 1; i <= 204; i++) {
            Kit.due("end(20)", x.end(20), 20 * i);
        }
        x.feed(0x01020304, 0x05060708, 0x090A0B0C, 0x0D0E0F10, 0x11121314);
        Kit.due("4080 + 17", x.end(17), TableVolumes.NONE);
        Kit.due("4080 + 20", x.end(20), TableVolumes.NONE);
        Kit.due("nothing came", x.end(15), 4095);
        x.feed(-1, 0, 0, 0, 0);
        Kit.due("4095 + 2", x.end(2), TableVolumes.NONE);
        Kit.due("4095 + 1", x.end(1), 4096);
        Kit.due("4096 + 1", x.end(1), TableVolumes.NONE);
        Kit.due("4096 + 0", x.end(0), 4096);
        Kit.due("write", x.write(0), 4096);
        Kit.due("byte 4079", x.content(0, 4079), 0);
        Kit.due("byte 4080", x.content(0, 4080), 1);
        Kit.due("byte 4094", x.content(0, 4094), 15);
        Kit.due("byte 4095", x.content(0, 4095), 255);
        Kit.due("empty again", x.end(20), 20);
        Run sixteen = withFile();
        for (int i = 1; i <= 204; i++) {
            sixteen.end(20);
        }
        Kit.due("4080 + 16", sixteen.end(16), 4096);
    }

    private static void clear() {
        Run x = withFile();
        x.end(20);
        x.clear();
        Kit.due("after clear", Kit.tapeLength(x), 0);
        Kit.due("write of nothing", x.write(0), 0);
        x.clear();
        Kit.due("clear of an empty tape", Kit.tapeLength(x), 0);
        Kit.tape(x, "again");
        Kit.due("write", x.write(0), 5);
    }

    private static void usedUp() {
        Run x = new Run(256);
        Kit.tape(x, "LABEL");
        x.format(2, 8, 2, 0);
        Kit.due("by format", Kit.tapeLength(x), 0);
        Kit.makeFile(x, "F");
        Kit.due("by make of a file", Kit.tapeLength(x), 0);
        Kit.makeDirectory(x, "D");
        Kit.due("by make of a directory", Kit.tapeLength(x), 0);
        Kit.writeText(x, 0, "text");
        Kit.due("by write", Kit.tapeLength(x), 0);
        Kit.due("the next write has nothing", x.write(0), 4);
    }

    /** Whatever is thrown: each of the exceptions that the calls have. */
    private static void usedUpByThrow() {
        Run none = new Run(256);
        usedUpBy(none, () -> none.make(false), Kit.STATE);
        usedUpBy(none, () -> none.make(true), Kit.STATE);
        usedUpBy(none, () -> none.write(0), Kit.STATE);
        usedUpBy(none, () -> none.format(3, 8, 2, 0), Kit.ARGUMENT);
        usedUpBy(none, () -> none.format(2, 8, 2, 0), Kit.ARGUMENT);
        Run x = new Run(256);
        x.format(8, 64, 2, 0);
        Kit.makeFile(x, "F");
        Kit.makeDirectory(x, "D");
        x.grow(0, 21 * 4096, 0);
        Kit.due("full", x.free(), 0);
        usedUpBy(x, () -> x.write(2), Kit.INDEX);
        usedUpBy(x, () -> x.write(-1), Kit.INDEX);
        usedUpBy(x, () -> x.write(1), Kit.ARGUMENT);
        usedUpBy(x, () -> x.write(0), Kit.ROOM);
        usedUpBy(x, () -> x.make(false), Kit.ARGUMENT);
        Kit.due("by a make without room", Kit.makeThrows(x, "E", true), Kit.ROOM);
        Kit.due("it is empty", Kit.tapeLength(x), 0);
    }

    private static void usedUpBy(Run x, Kit.Call call, int want) {
        x.end(3);
        Kit.throwsDue("with a tape of 3", call, want);
        Kit.due("it is empty", Kit.tapeLength(x), 0);
    }

    /** Calls that do not read it leave it, also if they throw. */
    private static void notRead() {
        Run x = withFile();
        x.end(5);
        x.fault();
        x.free();
        x.byteAt(0, 0);
        x.items();
        x.letter(0, 0);
        x.about(0, 5);
        x.content(0, 0);
        x.up();
        x.grow(0, 5, 5);
        x.cut(0, 2);
        x.stamp(0, 4, 0, 1);
        Kit.throwsDue("enter", () -> x.enter(0), Kit.ARGUMENT);
        Kit.throwsDue("grow", () -> x.grow(0, -1, 0), Kit.ARGUMENT);
        Kit.throwsDue("cut", () -> x.cut(1, 0), Kit.INDEX);
        Kit.throwsDue("about", () -> x.about(0, 7), Kit.ARGUMENT);
        x.remove(0);
        x.poke(0, 0, 0);
        x.poke(-1, 0, 0);
        Kit.due("other calls leave it", Kit.tapeLength(x), 5);
        Run none = new Run(256);
        none.end(5);
        Kit.throwsDue("items", none::items, Kit.STATE);
        Kit.throwsDue("grow", () -> none.grow(0, 1, 1), Kit.STATE);
        Kit.due("grow leaves it", Kit.tapeLength(none), 5);
    }

    private TapeTest() {
    }
}
