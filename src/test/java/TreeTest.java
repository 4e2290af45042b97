/** Promises 10 items, 11 letter, 12 about, 13 content, 14 enter, 15 up. */
public final class TreeTest {
    public static void main(String[] args) {
        without();
        items();
        letters();
        about();
        seconds();
        content();
        ways();
        Kit.end();
    }

    private static TableVolumes made(int sectors) {
        TableVolumes x = new TableVolumes(sectors);
        x.format(2, 8, 2, 0);
        return x;
    }

    /** Without a sound volume, whatever the other arguments are. */
    private static void without() {
        TableVolumes x = new TableVolumes(256);
        Kit.throwsDue("items", x::items, Kit.STATE);
        Kit.throwsDue("letter", () -> x.letter(-1, -1), Kit.STATE);
        Kit.throwsDue("about", () -> x.about(-1, 99), Kit.STATE);
        Kit.throwsDue("content", () -> x.content(-1, -1), Kit.STATE);
        Kit.throwsDue("enter", () -> x.enter(-1), Kit.STATE);
        Kit.throwsDue("up", x::up, Kit.STATE);
        Kit.throwsDue("make", () -> x.make(true), Kit.STATE);
        Kit.throwsDue("write", () -> x.write(-1), Kit.STATE);
        Kit.throwsDue("grow", () -> x.grow(-1, -1, 0), Kit.STATE);
        Kit.throwsDue("cut", () -> x.cut(-1, -1), Kit.STATE);
        Kit.throwsDue("remove", () -> x.remove(-1), Kit.STATE);
        Kit.throwsDue("stamp", () -> x.stamp(-1, 9, -1, -1), Kit.STATE);
        x.format(2, 8, 2, 0);
        for (int k : new int[] {-1, 0, 1, Integer.MIN_VALUE, Integer.MAX_VALUE}) {
            Kit.throwsDue("letter", () -> x.letter(k, 0), Kit.INDEX);
            Kit.throwsDue("about", () -> x.about(k, 99), Kit.INDEX);
            Kit.throwsDue("content", () -> x.content(k, 0), Kit.INDEX);
            Kit.throwsDue("enter", () -> x.enter(k), Kit.INDEX);
            Kit.throwsDue("write", () -> x.write(k), Kit.INDEX);
            Kit.throwsDue("grow", () -> x.grow(k, -1, 0), Kit.INDEX);
            Kit.throwsDue("cut", () -> x.cut(k, -1), Kit.INDEX);
            Kit.throwsDue("remove", () -> x.remove(k), Kit.INDEX);
            Kit.throwsDue("stamp", () -> x.stamp(k, 9, -1, -1), Kit.INDEX);
        }
        x.poke(8, 200, 1);
        Kit.throwsDue("items with a fault", x::items, Kit.STATE);
    }

    private static void items() {
        TableVolumes x = new TableVolumes(256);
        Kit.tape(x, "LABEL");
        x.format(2, 8, 2, 0);
        Kit.due("the label is none", x.items(), 0);
        Kit.makeFile(x, "ONE");
        Kit.makeDirectory(x, "two and more");
        Kit.due("two", x.items(), 2);
        Kit.due("points are none", x.enter(1), 0);
        Kit.due("points are none", x.items(), 0);
        x.up();
        x.remove(0);
        Kit.due("one less", x.items(), 1);
        Kit.due("the other one", Kit.nameOf(x, 0), "two and more");
        TableVolumes many = made(1024);
        for (int i = 0; i < 300; i++) {
            Kit.due("make", Kit.makeFile(many, "many files " + i), i);
        }
        Kit.due("many", many.items(), 300);
        Kit.due("the last one", Kit.nameOf(many, 299), "many files 299");
        Kit.due("sound", many.fault(), 0);
        many.poke(7, 0, 0);
        Kit.due("sound, looked through anew", many.fault(), 0);
    }

    private static void letters() {
        TableVolumes x = made(256);
        String[] names = {"A", "AB.C", "ABCDEFGH.IJK", "small", "\u007e\u0080\u07ff\u0800\ufffd\ud7ff\ue000", "x".repeat(255),
            "\u65e5".repeat(255), " lead", "thirteen unit"};
        for (int k = 0; k < names.length; k++) {
            Kit.makeFile(x, names[k]);
            byte[] bytes = names[k].getBytes(java.nio.charset.StandardCharsets.UTF_8);
            for (int i = 0; i < bytes.length; i++) {
                Kit.due("letter " + i + " of " + k, x.letter(k, i), bytes[i] & 255);
            }
            for (int i : new int[] {bytes.length, bytes.length + 1, 1000, Integer.MAX_VALUE, -1, Integer.MIN_VALUE}) {
                Kit.due("letter " + i + " of " + k, x.letter(k, i), TableVolumes.NONE);
            }
        }
        int[] wanted = {0x7E, 0xC2, 0x80, 0xDF, 0xBF, 0xE0, 0xA0, 0x80, 0xEF, 0xBF, 0xBD, 0xED, 0x9F, 0xBF, 0xEE, 0x80, 0x80};
        for (int i = 0; i < wanted.length; i++) {
            Kit.due("byte " + i, x.letter(4, i), wanted[i]);
        }
        Kit.throwsDue("no such item", () -> x.letter(names.length, 0), Kit.INDEX);
        Kit.throwsDue("no such item", () -> x.letter(-1, 0), Kit.INDEX);
    }

    private static void about() {
        TableVolumes x = made(256);
        Kit.makeFile(x, "F");
        Kit.makeDirectory(x, "a directory of two");
        Kit.due("a file", x.about(0, 0), 0);
        Kit.due("a directory", x.about(1, 0), 1);
        Kit.due("no parts", x.about(0, 6), 0);
        Kit.due("parts", x.about(1, 6), 2);
        Kit.due("size 0", x.about(0, 5), 0);
        Kit.due("size of a directory", x.about(1, 5), 0);
        x.grow(0, 70000, 3);
        Kit.due("size", x.about(0, 5), 70000);
        Kit.due("not read only", x.about(0, 1), 0);
        x.poke(10, 11, 39);
        Kit.due("read only", x.about(0, 1), 1);
        x.poke(10, 11, 38);
        Kit.due("other bits", x.about(0, 1), 0);
        for (int what : new int[] {-1, 7, 100, Integer.MIN_VALUE, Integer.MAX_VALUE}) {
            Kit.throwsDue("about " + what, () -> x.about(0, what), Kit.ARGUMENT);
            Kit.throwsDue("about " + what, () -> x.about(2, what), Kit.INDEX);
        }
    }

    private static void seconds() {
        TableVolumes x = made(256);
        Kit.makeFile(x, "F");
        for (int what = 2; what <= 4; what++) {
            Kit.due("1 January 1980", x.about(0, what), 315532800L);
        }
        // 7 March 2001, 13:45:58
        x.stamp(0, 2, 21 * 512 + 3 * 32 + 7, 13 * 2048 + 45 * 32 + 29);
        for (int what = 2; what <= 4; what++) {
            Kit.due("WRITTEN in place of the others", x.about(0, what), 983972758L);
        }
        // 29 February 2000, 0:00:02 and 1.99 seconds
        x.stamp(0, 0, 20 * 512 + 2 * 32 + 29, 1);
        Kit.due("MADE", x.about(0, 3), 951782402L);
        x.stamp(0, 3, 0, 99);
        Kit.due("99 hundredths", x.about(0, 3), 951782402L);
        x.stamp(0, 3, 0, 100);
        Kit.due("100 hundredths", x.about(0, 3), 951782403L);
        x.stamp(0, 3, 0, 199);
        Kit.due("199 hundredths", x.about(0, 3), 951782403L);
        Kit.due("READ has no day", x.about(0, 2), 983972758L);
        // 31 December 2107
        x.stamp(0, 1, 127 * 512 + 12 * 32 + 31, 0);
        Kit.due("READ at 0:00", x.about(0, 2), 4354732800L);
        x.stamp(0, 2, 120 * 512 + 3 * 32 + 1, 23 * 2048 + 59 * 32 + 29);
        Kit.due("2100 is no leap year", x.about(0, 4), 4107628798L);
    }

    private static void content() {
        TableVolumes x = made(256);
        Kit.makeFile(x, "F");
        Kit.makeDirectory(x, "D");
        Kit.due("an empty file", x.content(0, 0), TableVolumes.NONE);
        Kit.due("a directory", x.content(1, 0), TableVolumes.NONE);
        x.grow(0, 5000, 9);
        for (int i = 0; i < 5000; i++) {
            Kit.due("byte " + i, x.content(0, i), (9 + i * i + i / 256) & 255);
        }
        for (int at : new int[] {-1, 5000, 5001, 5120, Integer.MIN_VALUE, Integer.MAX_VALUE}) {
            Kit.due("byte " + at, x.content(0, at), TableVolumes.NONE);
            Kit.due("byte of a directory " + at, x.content(1, at), TableVolumes.NONE);
        }
        Kit.throwsDue("no such item", () -> x.content(2, 0), Kit.INDEX);
    }

    private static void ways() {
        TableVolumes x = made(256);
        Kit.holds("up from the root", !x.up());
        Kit.makeFile(x, "F");
        Kit.makeDirectory(x, "D");
        Kit.throwsDue("enter a file", () -> x.enter(0), Kit.ARGUMENT);
        Kit.throwsDue("enter nothing", () -> x.enter(2), Kit.INDEX);
        Kit.due("enter", x.enter(1), 0);
        Kit.makeFile(x, "IN D");
        Kit.makeDirectory(x, "E");
        Kit.due("enter the next", x.enter(1), 0);
        Kit.makeFile(x, "IN E");
        Kit.holds("up", x.up());
        Kit.due("now in D", Kit.nameOf(x, 0), "IN D");
        Kit.due("enter again", x.enter(1), 1);
        Kit.due("now in E", Kit.nameOf(x, 0), "IN E");
        Kit.holds("a poke that is none", !x.poke(-1, 0, 0));
        Kit.due("still in E", Kit.nameOf(x, 0), "IN E");
        Kit.throwsDue("a format that throws", () -> x.format(0, 0, 0, 0), Kit.ARGUMENT);
        Kit.due("still in E", Kit.nameOf(x, 0), "IN E");
        Kit.holds("up", x.up());
        Kit.holds("up", x.up());
        Kit.holds("no further", !x.up());
        Kit.due("in the root", Kit.nameOf(x, 1), "D");
        x.enter(1);
        Kit.holds("a poke", x.poke(7, 0, 0));
        Kit.due("in the root behind a poke", Kit.nameOf(x, 0), "F");
        Kit.holds("no further", !x.up());
        x.enter(1);
        x.poke(8, 480, 99);
        Kit.throwsDue("up with a fault", x::up, Kit.STATE);
        x.poke(8, 480, 0);
        Kit.holds("in the root", !x.up());
        deep();
    }

    private static void deep() {
        TableVolumes x = made(1024);
        int depth = 0;
        while (x.free() > 0) {
            Kit.makeDirectory(x, "D" + depth);
            Kit.due("enter", x.enter(0), 0);
            depth++;
        }
        Kit.due("one for each cluster", depth, 503);
        x.poke(7, 0, 1);
        Kit.due("sound", x.fault(), 0);
        for (int i = 0; i < depth; i++) {
            Kit.due("name " + i, Kit.nameOf(x, 0), "D" + i);
            x.enter(0);
        }
        for (int i = 0; i < depth; i++) {
            Kit.holds("up", x.up());
        }
        Kit.holds("the root", !x.up());
    }

    private TreeTest() {
    }
}
