import java.util.Arrays;

/** Promise 16 make; what it does to slots and clusters is in ChangeTest, what a name may be in NameTest. */
public final class MakeTest {
    private static final int ROOT = 10;

    public static void main(String[] args) {
        Kit.says("A new file, of size 0, or directory, here", MakeTest::newItem);
        Kit.says("its name is the tape, two bytes a unit, the higher one first", MakeTest::tape);
        Kit.says("its number among the items", MakeTest::number);
        Kit.says("the tape is no name", MakeTest::noName);
        Kit.says("(or an odd number of bytes)", MakeTest::odd);
        Kit.says("or one here is alike", MakeTest::alike);
        Kit.says("or it is a short name as shown that an item here has as its short name", MakeTest::shortNameOfAnother);
        Kit.says("UnsupportedOperationException (there is no room)", MakeTest::noRoom);
        Kit.end();
    }

    private static Run made() {
        Run x = new Run(256);
        x.format(2, 8, 2, 0);
        return x;
    }

    private static void newItem() {
        Run x = made();
        Kit.makeFile(x, "F");
        Kit.due("a file", x.about(0, 0), 0);
        Kit.due("of size 0", x.about(0, 5), 0);
        Kit.due("no cluster", x.free(), 122);
        Kit.makeDirectory(x, "D");
        Kit.due("a directory", x.about(1, 0), 1);
        Kit.due("with nothing in it", x.enter(1), 0);
        // here is another directory now
        Kit.makeFile(x, "F");
        Kit.makeDirectory(x, "D");
        Kit.due("items of D", x.items(), 2);
        x.up();
        Kit.due("items of the root", x.items(), 2);
        Kit.sound(x);
    }

    private static void tape() {
        Run x = made();
        x.feed(0x00410142, 0x65E50061, 0, 0, 0);
        x.end(8);
        Kit.due("make", x.make(false), 0);
        Kit.due("name", Kit.nameOf(x, 0), "A\u0142\u65e5a");
        Kit.due("used up", Kit.tapeLength(x), 0);
        Kit.throwsDue("so there is no name any more", () -> x.make(false), Kit.ARGUMENT);
        // the whole tape, which came by several calls
        x.feed(0x00580059, 0, 0, 0, 0);
        x.end(3);
        x.feed(0x59005A00, 0, 0, 0, 0);
        x.end(3);
        Kit.due("make", x.make(true), 1);
        Kit.due("name", Kit.nameOf(x, 1), "XYZ");
    }

    private static void number() {
        Run x = new Run(256);
        Kit.tape(x, "LABEL");
        x.format(2, 8, 2, 0);
        Kit.due("the label does not count", Kit.makeFile(x, "A"), 0);
        Kit.due("nor do parts", Kit.makeFile(x, "long name"), 1);
        Kit.due("a directory", Kit.makeDirectory(x, "D"), 2);
        Kit.due("at the end", Kit.makeFile(x, "B"), 3);
        x.remove(0);
        Kit.due("at the beginning", Kit.makeFile(x, "E"), 0);
        x.remove(2);
        Kit.due("in the middle", Kit.makeFile(x, "G"), 2);
        Kit.due("that one", Kit.nameOf(x, 2), "G");
        Kit.makeDirectory(x, "D");
        x.enter(4);
        Kit.due("the points do not count", Kit.makeFile(x, "A"), 0);
        Kit.due("the next", Kit.makeDirectory(x, "B"), 1);
    }

    /** That a name is refused, for files and directories, and nothing changes. */
    private static void refused(Run x, String name) {
        int[] kept = Kit.image(x, 14);
        for (boolean directory : new boolean[] {false, true}) {
            Run y = x.fork();
            Kit.due("make of " + name, Kit.makeThrows(y, name, directory), Kit.ARGUMENT);
            Kit.holds("nothing is changed", Arrays.equals(kept, Kit.image(y, 14)));
            Kit.due("the tape is used up", Kit.tapeLength(y), 0);
        }
    }

    private static void noName() {
        Run x = made();
        Kit.makeFile(x, "F");
        String[] bad = {"", ".", "..", "...", "a.", "a ", " ", "a\"", "a*b", "a/b", "a:b", "a<b", "a>b", "a?b", "a\\b", "a|b",
            "\u007f", "a\u0000", "\u001fa", "\ud800", "\udfffa", "\ufffe", "\uffff", "x".repeat(256), "x".repeat(300)};
        for (String name : bad) {
            refused(x, name);
        }
        Run most = x.fork();
        Kit.tape(most, Kit.unitBytes("x".repeat(2048)));
        Kit.throwsDue("a full tape", () -> most.make(false), Kit.ARGUMENT);
    }

    private static void odd() {
        Run x = made();
        for (String bytes : new String[] {"\0", "\0A\0", "\0A\0B\0", "A", "\0".repeat(511)}) {
            Run y = x.fork();
            Kit.tape(y, bytes);
            Kit.throwsDue(bytes.length() + " bytes", () -> y.make(false), Kit.ARGUMENT);
            Kit.due("nothing is made", y.items(), 0);
        }
        // 255 units and a byte more
        byte[] long255 = Arrays.copyOf(Kit.unitBytes("x".repeat(255)), 511);
        Kit.tape(x, long255);
        Kit.throwsDue("511 bytes", () -> x.make(false), Kit.ARGUMENT);
        Kit.tape(x, Arrays.copyOf(long255, 510));
        Kit.due("510 bytes", x.make(false), 0);
    }

    private static void alike() {
        Run x = made();
        Kit.makeFile(x, "README");
        Kit.makeFile(x, "Long name here");
        Kit.makeDirectory(x, "D");
        for (String name : new String[] {"README", "readme", "ReadMe", "Long name here", "LONG NAME HERE", "long name here", "D", "d"}) {
            refused(x, name);
        }
        Kit.due("longer", Kit.makeThrows(x.fork(), "README.", false), Kit.ARGUMENT);
        Kit.due("longer", Kit.makeThrows(x.fork(), "README1", false), Kit.NOTHING);
        Kit.due("shorter", Kit.makeThrows(x.fork(), "Long name her", false), Kit.NOTHING);
        // not here, but in the parent
        x.enter(2);
        Kit.due("in D", Kit.makeFile(x, "readme"), 0);
        x.up();
        x.remove(0);
        Kit.due("when it is gone", Kit.makeFile(x, "README"), 0);
        Kit.sound(x);
    }

    private static void shortNameOfAnother() {
        Run x = made();
        Kit.makeFile(x, "Long name here.text");
        Kit.due("its short name", Kit.text(x, ROOT, 64, 11), "LONGNA~1TEX");
        refused(x, "LONGNA~1.TEX");
        // one that is not a short name as shown gets another tail
        Run small = x.fork();
        Kit.due("small letters", Kit.makeFile(small, "longna~1.tex"), 1);
        Kit.due("its short name", Kit.text(small, ROOT, 128, 11), "LONGNA~2TEX");
        Kit.due("another number", Kit.makeThrows(x.fork(), "LONGNA~2.TEX", false), Kit.NOTHING);
        Kit.due("another extension", Kit.makeThrows(x.fork(), "LONGNA~1.TE", false), Kit.NOTHING);
        Kit.due("no extension", Kit.makeThrows(x.fork(), "LONGNA~1", false), Kit.NOTHING);
        Run gone = x.fork();
        gone.remove(0);
        Kit.due("when it is gone", Kit.makeThrows(gone, "LONGNA~1.TEX", false), Kit.NOTHING);
    }

    private static void noRoom() {
        Run x = new Run(256);
        x.format(8, 64, 2, 0);
        Kit.makeFile(x, "FULL");
        x.grow(0, 22 * 4096, 0);
        Kit.due("free", x.free(), 0);
        Kit.due("a file in the root has room", Kit.makeFile(x, "A"), 1);
        int[] kept = Kit.image(x, 74);
        Kit.due("a directory has none", Kit.makeThrows(x, "D", true), Kit.ROOM);
        Kit.due("a name with parts: none either", Kit.makeThrows(x, "d d", true), Kit.ROOM);
        Kit.due("what is alike comes first", Kit.makeThrows(x, "a", true), Kit.ARGUMENT);
        Kit.due("what is no name comes first", Kit.makeThrows(x, "a?", true), Kit.ARGUMENT);
        Kit.holds("nothing is changed", Arrays.equals(kept, Kit.image(x, 74)));
        for (int i = 2; i < 127; i++) {
            Kit.makeFile(x, "F" + i);
        }
        Kit.due("one slot is left: two", Kit.makeThrows(x, "two", false), Kit.ROOM);
        Kit.due("one", Kit.makeFile(x, "ONE"), 127);
        Kit.due("no slot more", Kit.makeThrows(x, "G", false), Kit.ROOM);
        x.cut(0, 21 * 4096);
        Kit.due("a directory wants two clusters", Kit.makeThrows(x, "D", true), Kit.ROOM);
        Kit.due("nothing was taken", x.free(), 1);
        Kit.due("a file wants one", Kit.makeFile(x, "G"), 128);
        Kit.due("nothing is free", x.free(), 0);
        Kit.sound(x);
    }

    private MakeTest() {
    }
}
