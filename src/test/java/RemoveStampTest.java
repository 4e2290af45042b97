import java.util.Arrays;

/** Promises 20 remove, 21 stamp. */
public final class RemoveStampTest {
    private static final int ROOT = 10;

    public static void main(String[] args) {
        Kit.says("Item k goes: its slots become empty (byte 0 of each: 229), its clusters free.", RemoveStampTest::remove);
        Kit.says("its clusters free", RemoveStampTest::removeClusters);
        Kit.says("IllegalArgumentException if it is a directory with items.", RemoveStampTest::removeDirectories);
        Kit.says("what = 0 MADE", RemoveStampTest::made);
        Kit.says("1 READ", RemoveStampTest::read);
        Kit.says("(of READ the time must be 0)", RemoveStampTest::readTime);
        Kit.says("2 WRITTEN become the day and the time", RemoveStampTest::written);
        Kit.says("3 HUNDREDTHS become time", RemoveStampTest::hundredths);
        Kit.says("4 READ ONLY is set if time is 1, or not if 0.", RemoveStampTest::readOnly);
        Kit.says("IllegalArgumentException if it would not be as told then.", RemoveStampTest::refused);
        Kit.says("what goes with a day 0 is 0, too", RemoveStampTest::noDay);
        Kit.says("(For 3 and 4 the day does not count.)", RemoveStampTest::dayDoesNotCount);
        Kit.end();
    }

    private static Run fresh() {
        Run x = new Run(256);
        x.format(2, 8, 2, 0);
        return x;
    }

    private static void remove() {
        Run x = fresh();
        Kit.makeFile(x, "A");
        Kit.makeFile(x, "three slots want this");
        Kit.makeFile(x, "B");
        x.stamp(1, 4, 0, 1);
        int[] kept = Kit.image(x, 12);
        x.remove(1);
        for (int at = 0; at < 12 * 512; at++) {
            int slot = (at - ROOT * 512) / 32;
            boolean mark = at % 32 == 0 && at > ROOT * 512 && slot >= 1 && slot <= 3;
            Kit.due("byte " + at % 512 + " of sector " + at / 512, x.byteAt(at / 512, at % 512), mark ? 229 : kept[at]);
        }
        Kit.due("items", x.items(), 2);
        Kit.due("B", Kit.nameOf(x, 1), "B");
        Kit.sound(x);
        for (int k : new int[] {-1, 2, Integer.MIN_VALUE, Integer.MAX_VALUE}) {
            Kit.throwsDue("remove " + k, () -> x.remove(k), Kit.INDEX);
        }
        x.remove(1);
        x.remove(0);
        Kit.due("nothing is left", x.items(), 0);
        Kit.sound(x);
        // slots in two clusters
        Run y = fresh();
        for (int i = 0; i < 31; i++) {
            Kit.makeFile(y, "F" + i);
        }
        Kit.makeFile(y, "three slots want this");
        y.remove(31);
        Kit.due("in the first cluster", y.byteAt(11, 480), 229);
        Kit.due("in the second", y.byteAt(12, 0), 229);
        Kit.due("and the entry", y.byteAt(12, 32), 229);
        Kit.due("the chain stays as it is", y.free(), 121);
        Kit.sound(y);
        // the longest name
        Run z = fresh();
        Kit.makeFile(z, "n".repeat(255));
        z.remove(0);
        for (int slot = 0; slot < 21; slot++) {
            Kit.due("slot " + slot, z.byteAt(ROOT + slot / 16, slot % 16 * 32), 229);
        }
        Kit.due("the next one", z.byteAt(ROOT + 1, 21 % 16 * 32), 0);
    }

    private static void removeClusters() {
        Run x = fresh();
        Kit.makeFile(x, "F");
        Kit.makeFile(x, "G");
        x.grow(0, 2048, 0);
        x.grow(1, 1, 0);
        x.grow(0, 1, 0);
        for (int table = 8; table <= 9; table++) {
            x.poke(table, 15, 0x70);
        }
        x.remove(0);
        for (int table = 8; table <= 9; table++) {
            Kit.due("free, with its highest four bits", Kit.number(x, table, 12, 4), 0x70000000L);
            Kit.due("free", Kit.number(x, table, 16, 4), 0);
            Kit.due("G's stays", Kit.number(x, table, 20, 4), 268435455);
            Kit.due("free", Kit.number(x, table, 24, 4), 0);
        }
        Kit.due("free", x.free(), 121);
        Kit.sound(x);
        Run empty = fresh();
        Kit.makeFile(empty, "F");
        empty.remove(0);
        Kit.due("an empty file has none", empty.free(), 122);
        Kit.due("the root's stays", Kit.number(empty, 8, 8, 4), 268435455);
        Run all = fresh();
        Kit.makeFile(all, "F");
        all.grow(0, 122 * 1024, 0);
        all.remove(0);
        Kit.due("all", all.free(), 122);
        Kit.sound(all);
    }

    private static void removeDirectories() {
        Run x = fresh();
        Kit.makeDirectory(x, "D");
        x.enter(0);
        for (int i = 0; i < 40; i++) {
            Kit.makeFile(x, "F" + i);
        }
        Kit.due("two clusters", x.free(), 120);
        for (int i = 0; i < 39; i++) {
            x.remove(0);
        }
        x.up();
        int[] kept = Kit.image(x, 16);
        Kit.throwsDue("a directory with an item in its second cluster", () -> x.remove(0), Kit.ARGUMENT);
        Kit.holds("nothing is changed", Arrays.equals(kept, Kit.image(x, 16)));
        x.enter(0);
        x.remove(0);
        x.up();
        x.remove(0);
        Kit.due("both clusters are free", x.free(), 122);
        Kit.due("its slot", x.byteAt(ROOT, 0), 229);
        Kit.sound(x);
        Run y = fresh();
        Kit.makeDirectory(y, "E");
        y.enter(0);
        Kit.makeDirectory(y, "IN E");
        y.up();
        Kit.throwsDue("a directory with a directory", () -> y.remove(0), Kit.ARGUMENT);
        y.enter(0);
        y.remove(0);
        y.up();
        y.remove(0);
        Kit.due("the points are no items", y.items(), 0);
        Kit.due("free", y.free(), 122);
        Kit.sound(y);
    }

    private static int day(int year, int month, int day) {
        return 512 * (year - 1980) + 32 * month + day;
    }

    private static int time(int hour, int minute, int half) {
        return 2048 * hour + 32 * minute + half;
    }

    /** The days and times that a stamp may have, at their edges. */
    private static final int[] DAYS = {day(1980, 1, 1), day(1980, 2, 29), day(2000, 2, 29), day(2001, 4, 30), day(2100, 2, 28),
        day(2107, 12, 31)};
    private static final int[] TIMES = {0, time(0, 0, 29), time(0, 59, 0), time(23, 0, 0), time(23, 59, 29)};
    private static final int[] NO_DAYS = {1, 31, 32, day(1980, 0, 1), day(1980, 13, 1), day(1980, 15, 31), day(1980, 2, 30),
        day(1981, 2, 29), day(2100, 2, 29), day(1980, 4, 31), day(2107, 12, 0), day(2108, 1, 1), -1, 65535, 65536, 65536 + 33,
        -65536 + 33, Integer.MIN_VALUE, Integer.MIN_VALUE + 33, Integer.MAX_VALUE};
    private static final int[] NO_TIMES = {30, 31, time(0, 60, 0), time(0, 63, 29), time(24, 0, 0), time(31, 59, 29), -1, 65535, 65536,
        131072, Integer.MIN_VALUE, Integer.MAX_VALUE};

    /** What an entry has of times; the bytes beside them are those of a new one. */
    private static void entry(Run x, int at, int hundredths, int madeTime, int madeDay, int readDay, int written) {
        Kit.due("HUNDREDTHS", x.byteAt(ROOT, at + 13), hundredths);
        Kit.due("time of MADE", Kit.number(x, ROOT, at + 14, 2), madeTime);
        Kit.due("day of MADE", Kit.number(x, ROOT, at + 16, 2), madeDay);
        Kit.due("day of READ", Kit.number(x, ROOT, at + 18, 2), readDay);
        Kit.due("time and day of WRITTEN", Kit.number(x, ROOT, at + 22, 4), written & 0xFFFFFFFFL);
        Kit.due("what is at 12", x.byteAt(ROOT, at + 12), 0);
        Kit.due("size", Kit.number(x, ROOT, at + 28, 4), 0);
    }

    /** A file in slot 0 and a directory with a part in slots 1 and 2. */
    private static Run two() {
        Run x = fresh();
        Kit.makeFile(x, "F");
        Kit.makeDirectory(x, "d");
        return x;
    }

    private static void made() {
        for (int k = 0; k < 2; k++) {
            Run x = two();
            for (int day : DAYS) {
                for (int time : TIMES) {
                    x.stamp(k, 0, day, time);
                    entry(x, 64 * k, 0, time, day, 0, 33 << 16);
                }
            }
            entry(x, 64 * (1 - k), 0, 0, 0, 0, 33 << 16);
            Kit.due("\".\" is as before", Kit.number(x, 12, 13, 7), 0);
            Kit.due("its WRITTEN as well", Kit.number(x, 12, 22, 4), 33 << 16);
            Kit.sound(x);
        }
    }

    private static void read() {
        for (int k = 0; k < 2; k++) {
            Run x = two();
            for (int day : DAYS) {
                x.stamp(k, 1, day, 0);
                entry(x, 64 * k, 0, 0, 0, day, 33 << 16);
            }
            x.stamp(k, 1, 0, 0);
            entry(x, 64 * k, 0, 0, 0, 0, 33 << 16);
            Kit.sound(x);
        }
    }

    private static void readTime() {
        Run x = two();
        for (int time : TIMES) {
            Kit.throwsDue("READ at " + time, () -> x.stamp(0, 1, 33, time), time == 0 ? Kit.NOTHING : Kit.ARGUMENT);
            Kit.throwsDue("READ without a day at " + time, () -> x.stamp(0, 1, 0, time), time == 0 ? Kit.NOTHING : Kit.ARGUMENT);
        }
        for (int time : new int[] {1, -1, 65536, Integer.MIN_VALUE}) {
            Kit.throwsDue("READ at " + time, () -> x.stamp(0, 1, 33, time), Kit.ARGUMENT);
        }
        entry(x, 0, 0, 0, 0, 0, 33 << 16);
    }

    private static void written() {
        for (int k = 0; k < 2; k++) {
            Run x = two();
            for (int day : DAYS) {
                for (int time : TIMES) {
                    x.stamp(k, 2, day, time);
                    entry(x, 64 * k, 0, 0, 0, 0, day << 16 | time);
                }
            }
            entry(x, 64 * (1 - k), 0, 0, 0, 0, 33 << 16);
            Kit.sound(x);
        }
    }

    private static void hundredths() {
        Run x = two();
        x.stamp(0, 0, day(2107, 12, 31), time(23, 59, 29));
        for (int time = 0; time <= 199; time++) {
            x.stamp(0, 3, 0, time);
            entry(x, 0, time, time(23, 59, 29), day(2107, 12, 31), 0, 33 << 16);
        }
        Kit.sound(x);
        for (int time : new int[] {-1, 200, 255, 256, 257, 65536, Integer.MIN_VALUE, Integer.MAX_VALUE}) {
            Kit.throwsDue("hundredths " + time, () -> x.stamp(0, 3, 0, time), Kit.ARGUMENT);
        }
        entry(x, 0, 199, time(23, 59, 29), day(2107, 12, 31), 0, 33 << 16);
        // another day and time leave them
        x.stamp(0, 0, 33, 0);
        entry(x, 0, 199, 0, 33, 0, 33 << 16);
    }

    private static void readOnly() {
        Run x = two();
        for (int k = 0; k < 2; k++) {
            int item = k;
            int bits = k == 0 ? 32 : 48;
            x.stamp(k, 4, 0, 1);
            Kit.due("set", x.byteAt(ROOT, 64 * k + 11), bits + 1);
            x.stamp(k, 4, 0, 1);
            Kit.due("set again", x.byteAt(ROOT, 64 * k + 11), bits + 1);
            for (int time : new int[] {-1, 2, 3, 256, 257, Integer.MIN_VALUE, Integer.MAX_VALUE}) {
                Kit.throwsDue("READ ONLY " + time, () -> x.stamp(item, 4, 0, time), Kit.ARGUMENT);
            }
            Kit.due("still set", x.byteAt(ROOT, 64 * k + 11), bits + 1);
            Kit.due("by about", x.about(k, 1), 1);
            Kit.sound(x);
            x.stamp(k, 4, 0, 0);
            Kit.due("not set", x.byteAt(ROOT, 64 * k + 11), bits);
            x.stamp(k, 4, 0, 0);
            Kit.due("not set again", x.byteAt(ROOT, 64 * k + 11), bits);
            entry(x, 64 * k, 0, 0, 0, 0, 33 << 16);
        }
        x.poke(ROOT, 11, 7);
        x.stamp(0, 4, 0, 0);
        Kit.due("other bits stay", x.byteAt(ROOT, 11), 6);
        x.stamp(0, 4, 0, 1);
        Kit.due("other bits stay", x.byteAt(ROOT, 11), 7);
        Kit.sound(x);
    }

    private static void refused() {
        Run x = two();
        int[] kept = Kit.image(x, 14);
        for (int what : new int[] {-1, 5, 6, 256, Integer.MIN_VALUE, Integer.MAX_VALUE}) {
            Kit.throwsDue("stamp " + what, () -> x.stamp(0, what, 33, 0), Kit.ARGUMENT);
            Kit.throwsDue("stamp nothing " + what, () -> x.stamp(2, what, 33, 0), Kit.INDEX);
        }
        for (int what = 0; what <= 2; what++) {
            int w = what;
            for (int day : NO_DAYS) {
                Kit.throwsDue("stamp " + w + " day " + day, () -> x.stamp(0, w, day, 0), Kit.ARGUMENT);
            }
            for (int time : NO_TIMES) {
                Kit.throwsDue("stamp " + w + " time " + time, () -> x.stamp(0, w, 33, time), Kit.ARGUMENT);
            }
        }
        Kit.throwsDue("WRITTEN has a day", () -> x.stamp(0, 2, 0, 0), Kit.ARGUMENT);
        Kit.throwsDue("no such item", () -> x.stamp(-1, 2, 33, 0), Kit.INDEX);
        Kit.holds("nothing is changed", Arrays.equals(kept, Kit.image(x, 14)));
    }

    private static void noDay() {
        Run x = two();
        Kit.throwsDue("MADE without a day has no time", () -> x.stamp(0, 0, 0, 1), Kit.ARGUMENT);
        Kit.throwsDue("nor hundredths", () -> x.stamp(0, 3, 33, 1), Kit.ARGUMENT);
        for (int k = 0; k < 2; k++) {
            x.stamp(k, 3, 0, 0);
            x.stamp(k, 0, 0, 0);
            entry(x, 64 * k, 0, 0, 0, 0, 33 << 16);
        }
        x.stamp(0, 0, 33, 1);
        x.stamp(0, 3, 0, 1);
        Kit.throwsDue("no day with hundredths", () -> x.stamp(0, 0, 0, 0), Kit.ARGUMENT);
        entry(x, 0, 1, 1, 33, 0, 33 << 16);
        x.stamp(0, 3, 0, 0);
        x.stamp(0, 0, 0, 0);
        entry(x, 0, 0, 0, 0, 0, 33 << 16);
        Kit.sound(x);
    }

    private static void dayDoesNotCount() {
        Run x = two();
        x.stamp(0, 0, 33, 0);
        int hundredths = 0;
        for (int day : NO_DAYS) {
            hundredths++;
            x.stamp(0, 3, day, hundredths);
            Kit.due("hundredths", x.byteAt(ROOT, 13), hundredths);
            x.stamp(0, 4, day, hundredths % 2);
            Kit.due("READ ONLY", x.about(0, 1), hundredths % 2);
        }
        Kit.due("the day is as it was", Kit.number(x, ROOT, 16, 2), 33);
        Kit.sound(x);
    }

    private RemoveStampTest() {
    }
}
