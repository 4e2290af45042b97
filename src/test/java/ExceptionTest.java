import java.util.Arrays;

/** Which exceptions come, in which order, and that a call that throws changes nothing. */
public final class ExceptionTest {
    private static final int SECTORS = 256;

    public static void main(String[] args) {
        Kit.says("Calls that read or change want a sound volume.", ExceptionTest::noVolume);
        Kit.says("IllegalStateException (there is none)", ExceptionTest::faults);
        Kit.says("IndexOutOfBoundsException (no such item here)", ExceptionTest::noItem);
        Kit.says("Exceptions, in this order", ExceptionTest::order);
        Kit.says("What throws changes nothing but the tape (which is used up also by a call that throws).",
                ExceptionTest::nothingChanged);
        Kit.end();
    }

    /** Each with arguments for which, if there were a sound volume, another exception would come. */
    private static void stateOfAll(Run x) {
        Kit.throwsDue("items", x::items, Kit.STATE);
        Kit.throwsDue("letter", () -> x.letter(-1, -1), Kit.STATE);
        Kit.throwsDue("about", () -> x.about(-1, 99), Kit.STATE);
        Kit.throwsDue("content", () -> x.content(-1, -1), Kit.STATE);
        Kit.throwsDue("enter", () -> x.enter(-1), Kit.STATE);
        Kit.throwsDue("up", x::up, Kit.STATE);
        Kit.throwsDue("make", () -> x.make(true), Kit.STATE);
        Kit.throwsDue("make", () -> x.make(false), Kit.STATE);
        Kit.throwsDue("write", () -> x.write(-1), Kit.STATE);
        Kit.throwsDue("grow", () -> x.grow(-1, -1, 0), Kit.STATE);
        Kit.throwsDue("cut", () -> x.cut(-1, -1), Kit.STATE);
        Kit.throwsDue("remove", () -> x.remove(-1), Kit.STATE);
        Kit.throwsDue("stamp", () -> x.stamp(-1, 9, -1, -1), Kit.STATE);
    }

    private static void noVolume() {
        stateOfAll(new Run(SECTORS));
        Run poked = new Run(SECTORS);
        poked.poke(100, 100, 100);
        stateOfAll(poked);
        Run refused = new Run(SECTORS);
        Kit.throwsDue("format", () -> refused.format(0, 0, 0, 0), Kit.ARGUMENT);
        stateOfAll(refused);
        // these want none
        Run x = new Run(SECTORS);
        Kit.due("fault", x.fault(), 1);
        Kit.due("free", x.free(), TableVolumes.NONE);
        Kit.due("byteAt", x.byteAt(0, 0), 0);
        Kit.holds("poke", x.poke(0, 0, 0));
        Kit.due("end", x.end(1), 1);
        x.clear();
        Kit.due("format", x.format(2, 8, 2, 0), 123);
    }

    private static void faults() {
        for (int fault = 1; fault <= 6; fault++) {
            Run x = FaultTest.withFault(fault);
            stateOfAll(x);
            Kit.due("fault", x.fault(), fault);
        }
        // sound again: the same calls go
        Run x = SlotTest.base();
        x.poke(8, 200, 1);
        stateOfAll(x);
        x.poke(8, 200, 0);
        Kit.due("items", x.items(), 3);
        Kit.holds("up", !x.up());
    }

    /** Whatever the other arguments are. */
    private static void noItem() {
        Run empty = new Run(SECTORS);
        empty.format(2, 8, 2, 0);
        Run full = SlotTest.base();
        for (int k : new int[] {-1, 3, 4, Integer.MIN_VALUE, Integer.MAX_VALUE}) {
            indexOfAll(empty, k);
            indexOfAll(full, k);
        }
        indexOfAll(empty, 0);
        // here, not elsewhere: DIR has two items
        full.enter(1);
        indexOfAll(full, 2);
        Kit.due("the last one", full.about(1, 0), 0);
    }

    private static void indexOfAll(Run x, int k) {
        Kit.throwsDue("letter", () -> x.letter(k, 0), Kit.INDEX);
        Kit.throwsDue("about", () -> x.about(k, 99), Kit.INDEX);
        Kit.throwsDue("content", () -> x.content(k, 0), Kit.INDEX);
        Kit.throwsDue("enter", () -> x.enter(k), Kit.INDEX);
        Kit.throwsDue("write", () -> x.write(k), Kit.INDEX);
        Kit.throwsDue("grow", () -> x.grow(k, -1, 0), Kit.INDEX);
        Kit.throwsDue("cut", () -> x.cut(k, -1), Kit.INDEX);
        Kit.throwsDue("remove", () -> x.remove(k), Kit.INDEX);
        Kit.throwsDue("stamp", () -> x.stamp(k, 9, -1, -1), Kit.INDEX);
    }

    /** A full volume: F of all clusters but those of the root and of D, which has "IN D". */
    private static Run full() {
        Run x = new Run(SECTORS);
        x.format(8, 64, 2, 0);
        Kit.makeFile(x, "F");
        Kit.makeDirectory(x, "D");
        x.enter(1);
        Kit.makeFile(x, "IN D");
        x.up();
        x.grow(0, 21 * 4096, 0);
        Kit.due("free", x.free(), 0);
        return x;
    }

    private static void order() {
        Run x = full();
        // no room, and something that is not as it must be
        Kit.tape(x, "text");
        Kit.throwsDue("write to a directory", () -> x.write(1), Kit.ARGUMENT);
        Kit.throwsDue("grow a directory", () -> x.grow(1, 1, 0), Kit.ARGUMENT);
        Kit.throwsDue("grow too much", () -> x.grow(0, 400001, 0), Kit.ARGUMENT);
        Kit.throwsDue("grow", () -> x.grow(0, 400000, 0), Kit.ROOM);
        Kit.throwsDue("grow", () -> x.grow(0, 1, 0), Kit.ROOM);
        Kit.due("make of one that is alike", Kit.makeThrows(x, "f", true), Kit.ARGUMENT);
        Kit.due("make of no name", Kit.makeThrows(x, "g.", true), Kit.ARGUMENT);
        Kit.due("make", Kit.makeThrows(x, "G", true), Kit.ROOM);
        Kit.tape(x, "text");
        Kit.throwsDue("write", () -> x.write(0), Kit.ROOM);
        // no item, and no room
        Kit.tape(x, "text");
        Kit.throwsDue("write", () -> x.write(2), Kit.INDEX);
        Kit.throwsDue("grow", () -> x.grow(2, 1, 0), Kit.INDEX);
    }

    private static void unchanged(Run x, String what, Kit.Call call, int want) {
        int[] before = Kit.image(x, 76);
        Kit.throwsDue(what, call, want);
        Kit.holds(what + " changes nothing", Arrays.equals(before, Kit.image(x, 76)));
        Kit.due("items", x.items(), 2);
        Kit.due("HERE is as before", Kit.nameOf(x, 1), "D");
    }

    private static void nothingChanged() {
        Run x = full();
        unchanged(x, "letter", () -> x.letter(2, 0), Kit.INDEX);
        unchanged(x, "about", () -> x.about(0, 7), Kit.ARGUMENT);
        unchanged(x, "content", () -> x.content(2, 0), Kit.INDEX);
        unchanged(x, "enter a file", () -> x.enter(0), Kit.ARGUMENT);
        unchanged(x, "enter nothing", () -> x.enter(2), Kit.INDEX);
        unchanged(x, "make of no name", () -> x.make(false), Kit.ARGUMENT);
        Kit.tape(x, Kit.unitBytes("G"));
        unchanged(x, "make of a directory", () -> x.make(true), Kit.ROOM);
        Kit.tape(x, "text");
        unchanged(x, "write", () -> x.write(0), Kit.ROOM);
        Kit.tape(x, "text");
        unchanged(x, "write to a directory", () -> x.write(1), Kit.ARGUMENT);
        unchanged(x, "grow", () -> x.grow(0, 4097, 0), Kit.ROOM);
        unchanged(x, "grow by less than nothing", () -> x.grow(0, -1, 0), Kit.ARGUMENT);
        unchanged(x, "cut", () -> x.cut(0, 21 * 4096 + 1), Kit.ARGUMENT);
        unchanged(x, "cut a directory", () -> x.cut(1, 0), Kit.ARGUMENT);
        unchanged(x, "remove a directory with items", () -> x.remove(1), Kit.ARGUMENT);
        unchanged(x, "remove nothing", () -> x.remove(2), Kit.INDEX);
        unchanged(x, "stamp", () -> x.stamp(0, 2, 0, 0), Kit.ARGUMENT);
        unchanged(x, "stamp", () -> x.stamp(0, 0, 33, 31), Kit.ARGUMENT);
        unchanged(x, "stamp", () -> x.stamp(0, 5, 33, 0), Kit.ARGUMENT);
        unchanged(x, "format", () -> x.format(2, 7, 2, 0), Kit.ARGUMENT);
        Kit.tape(x, "no label");
        unchanged(x, "format", () -> x.format(2, 8, 2, 0), Kit.ARGUMENT);
    }

    private ExceptionTest() {
    }
}
