import java.util.Arrays;

/** Promises 20 remove, 21 stamp. */
public final class RemoveStampTest {
    private static final int ROOT = 10;

    public static void main(String[] args) {
        remove();
        removeDirectories();
        stamps();
        made();
        readAndWritten();
        hundredths();
        readOnly();
        Kit.end();
    }

    private static TableVolumes fresh() {
        TableVolumes x = new TableVolumes(256);
        x.format(2, 8, 2, 0);
        return x;
    }

    private static void sound(TableVolumes x) {
        x.poke(7, 0, 0);
        Kit.due("fault", x.fault(), 0);
    }

    private static void remove() {
        TableVolumes x = fresh();
        Kit.makeFile(x, "A");
        Kit.makeFile(x, "three slots want this");
        Kit.makeFile(x, "B");
        x.grow(1, 3000, 0);
        x.stamp(1, 4, 0, 1);
        for (int table = 8; table <= 9; table++) {
            x.poke(table, 15, 0x70);
        }
        int[] kept = Kit.image(x, 256);
        x.remove(1);
        for (int slot = 1; slot <= 3; slot++) {
            Kit.due("slot " + slot, x.byteAt(ROOT, slot * 32), 229);
            for (int i = 1; i < 32; i++) {
                Kit.due("the rest of slot " + slot, x.byteAt(ROOT, slot * 32 + i), kept[ROOT * 512 + slot * 32 + i]);
            }
        }
        Kit.due("slot 0", x.byteAt(ROOT, 0), 'A');
        Kit.due("slot 4", x.byteAt(ROOT, 128), 'B');
        Kit.due("items", x.items(), 2);
        Kit.due("B", Kit.nameOf(x, 1), "B");
        Kit.due("free", x.free(), 122);
        for (int table = 8; table <= 9; table++) {
            Kit.due("free, with its highest four bits", Kit.number(x, table, 12, 4), 0x70000000L);
            Kit.due("free", Kit.number(x, table, 16, 4), 0);
            Kit.due("free", Kit.number(x, table, 20, 4), 0);
        }
        sound(x);
        for (int k : new int[] {-1, 2, Integer.MIN_VALUE, Integer.MAX_VALUE}) {
            Kit.throwsDue("remove " + k, () -> x.remove(k), Kit.INDEX);
        }
        x.remove(1);
        x.remove(0);
        Kit.due("nothing is left", x.items(), 0);
        sound(x);
    }

    private static void removeDirectories() {
        TableVolumes x = fresh();
        Kit.makeDirectory(x, "D");
        x.enter(0);
        for (int i = 0; i < 40; i++) {
            Kit.makeFile(x, "F" + i);
        }
        Kit.due("two clusters", x.free(), 120);
        for (int i = 0; i < 39; i++) {
            x.remove(0);
        }
        x.up();
        int[] kept = Kit.image(x, 256);
        Kit.throwsDue("a directory with an item in its second cluster", () -> x.remove(0), Kit.ARGUMENT);
        Kit.holds("nothing is changed", Arrays.equals(kept, Kit.image(x, 256)));
        x.enter(0);
        x.remove(0);
        x.up();
        x.remove(0);
        Kit.due("both clusters are free", x.free(), 122);
        Kit.due("its slot", x.byteAt(ROOT, 0), 229);
        sound(x);
        Kit.makeDirectory(x, "E");
        x.enter(0);
        Kit.makeDirectory(x, "IN E");
        x.up();
        Kit.throwsDue("a directory with a directory", () -> x.remove(0), Kit.ARGUMENT);
    }

    private static void stamps() {
        TableVolumes x = fresh();
        Kit.makeFile(x, "F");
        int[] kept = Kit.image(x, 256);
        for (int what : new int[] {-1, 5, 6, Integer.MIN_VALUE, Integer.MAX_VALUE}) {
            Kit.throwsDue("stamp " + what, () -> x.stamp(0, what, 33, 0), Kit.ARGUMENT);
            Kit.throwsDue("stamp nothing " + what, () -> x.stamp(1, what, 33, 0), Kit.INDEX);
        }
        int[] days = {32, 1, 31, 13 * 32 + 1, 2 * 32 + 30, 4 * 32 + 31, 512 + 2 * 32 + 29, 120 * 512 + 2 * 32 + 29, -1, 65536,
            65536 + 33, -65536 + 33, Integer.MIN_VALUE, Integer.MAX_VALUE};
        int[] times = {24 * 2048, 60 * 32, 30, -1, 65536, Integer.MIN_VALUE, Integer.MAX_VALUE};
        for (int what = 0; what <= 2; what++) {
            int w = what;
            for (int day : days) {
                Kit.throwsDue("stamp " + w + " day " + day, () -> x.stamp(0, w, day, 0), Kit.ARGUMENT);
            }
            for (int time : times) {
                Kit.throwsDue("stamp " + w + " time " + time, () -> x.stamp(0, w, 33, time), Kit.ARGUMENT);
            }
        }
        Kit.throwsDue("READ has no time", () -> x.stamp(0, 1, 33, 1), Kit.ARGUMENT);
        Kit.throwsDue("WRITTEN has a day", () -> x.stamp(0, 2, 0, 0), Kit.ARGUMENT);
        Kit.throwsDue("MADE without a day has no time", () -> x.stamp(0, 0, 0, 1), Kit.ARGUMENT);
        Kit.holds("nothing is changed", Arrays.equals(kept, Kit.image(x, 256)));
    }

    private static void made() {
        TableVolumes x = fresh();
        Kit.makeFile(x, "F");
        x.stamp(0, 0, 127 * 512 + 12 * 32 + 31, 23 * 2048 + 59 * 32 + 29);
        Kit.due("day", Kit.number(x, ROOT, 16, 2), 127 * 512 + 12 * 32 + 31);
        Kit.due("time", Kit.number(x, ROOT, 14, 2), 23 * 2048 + 59 * 32 + 29);
        x.stamp(0, 0, 20 * 512 + 2 * 32 + 29, 0);
        Kit.due("29 February 2000", Kit.number(x, ROOT, 16, 2), 20 * 512 + 2 * 32 + 29);
        x.stamp(0, 3, -5, 1);
        Kit.throwsDue("no day with hundredths", () -> x.stamp(0, 0, 0, 0), Kit.ARGUMENT);
        x.stamp(0, 3, -5, 0);
        x.stamp(0, 0, 0, 0);
        Kit.due("no day", Kit.number(x, ROOT, 13, 5), 0);
        sound(x);
    }

    private static void readAndWritten() {
        TableVolumes x = fresh();
        Kit.makeDirectory(x, "a directory");
        int at = 32;
        x.stamp(0, 1, 44 * 512 + 2 * 32 + 29, 0);
        Kit.due("READ", Kit.number(x, ROOT, at + 18, 2), 44 * 512 + 2 * 32 + 29);
        x.stamp(0, 2, 46 * 512 + 11 * 32 + 15, 12 * 2048 + 31 * 32 + 7);
        Kit.due("WRITTEN", Kit.number(x, ROOT, at + 24, 2), 46 * 512 + 11 * 32 + 15);
        Kit.due("its time", Kit.number(x, ROOT, at + 22, 2), 12 * 2048 + 31 * 32 + 7);
        Kit.due("MADE is as before", Kit.number(x, ROOT, at + 12, 6), 0);
        Kit.due("\".\" is as before", Kit.number(x, 12, 24, 2), 33);
        x.stamp(0, 1, 0, 0);
        Kit.due("READ", Kit.number(x, ROOT, at + 18, 2), 0);
        sound(x);
    }

    private static void hundredths() {
        TableVolumes x = fresh();
        Kit.makeFile(x, "F");
        Kit.throwsDue("without a day", () -> x.stamp(0, 3, 33, 1), Kit.ARGUMENT);
        x.stamp(0, 3, -1, 0);
        x.stamp(0, 0, 33, 0);
        for (int time : new int[] {-1, 200, 256, Integer.MIN_VALUE, Integer.MAX_VALUE}) {
            Kit.throwsDue("hundredths " + time, () -> x.stamp(0, 3, 0, time), Kit.ARGUMENT);
        }
        x.stamp(0, 0, 127 * 512 + 12 * 32 + 31, 23 * 2048 + 59 * 32 + 29);
        x.stamp(0, 3, 0, 3);
        Kit.due("hundredths behind a late time", x.byteAt(ROOT, 13), 3);
        x.stamp(0, 0, 33, 0);
        x.stamp(0, 3, 99999, 199);
        Kit.due("hundredths", x.byteAt(ROOT, 13), 199);
        Kit.due("their neighbours", x.byteAt(ROOT, 12) + x.byteAt(ROOT, 14), 0);
        x.stamp(0, 3, Integer.MIN_VALUE, 0);
        Kit.due("hundredths", x.byteAt(ROOT, 13), 0);
        sound(x);
    }

    private static void readOnly() {
        TableVolumes x = fresh();
        Kit.makeFile(x, "F");
        Kit.makeDirectory(x, "D");
        for (int k = 0; k < 2; k++) {
            int item = k;
            int bits = k == 0 ? 32 : 48;
            x.stamp(k, 4, -1, 1);
            Kit.due("bits", x.byteAt(ROOT, 32 * k + 11), bits + 1);
            x.stamp(k, 4, 70000, 1);
            Kit.due("bits", x.byteAt(ROOT, 32 * k + 11), bits + 1);
            for (int time : new int[] {-1, 2, 3, 256, 257, Integer.MIN_VALUE}) {
                Kit.throwsDue("READ ONLY " + time, () -> x.stamp(item, 4, 0, time), Kit.ARGUMENT);
            }
            Kit.due("bits", x.byteAt(ROOT, 32 * k + 11), bits + 1);
            sound(x);
            x.stamp(k, 4, 0, 0);
            Kit.due("bits", x.byteAt(ROOT, 32 * k + 11), bits);
        }
        x.poke(ROOT, 11, 7);
        x.stamp(0, 4, 0, 0);
        Kit.due("other bits stay", x.byteAt(ROOT, 11), 6);
        x.stamp(0, 4, 0, 1);
        Kit.due("other bits stay", x.byteAt(ROOT, 11), 7);
        sound(x);
    }

    private RemoveStampTest() {
    }
}
