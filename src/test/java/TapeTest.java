/** Promises 2 feed, 3 end, 4 clear, and that calls which read the tape use it up. */
public final class TapeTest {
    public static void main(String[] args) {
        order();
        readyBytes();
        limits();
        clear();
        usedUp();
        Kit.end();
    }

    private static TableVolumes withFile() {
        TableVolumes x = new TableVolumes(256);
        x.format(2, 8, 2, 0);
        Kit.makeFile(x, "F");
        return x;
    }

    private static void order() {
        TableVolumes x = withFile();
        x.feed(0x01020304, 0x05060708, 0x090A0B0C, 0x0D0E0F10, 0x818283FF);
        Kit.due("end(20)", x.end(20), 20);
        Kit.due("write", x.write(0), 20);
        for (int i = 0; i < 20; i++) {
            Kit.due("byte " + i, x.content(0, i), i < 16 ? i + 1 : i == 19 ? 255 : 0x81 + i - 16);
        }
    }

    private static void readyBytes() {
        TableVolumes x = withFile();
        Kit.due("end of what is 0 at first", x.end(3), 3);
        x.feed(0x41424344, 0, 0, 0, 0);
        x.feed(0x61626364, 0x65666768, 0, 0, 0);
        Kit.due("a refused end", x.end(21), TableVolumes.NONE);
        Kit.due("a refused end", x.end(-1), TableVolumes.NONE);
        Kit.due("ready bytes outlive it", x.end(5), 8);
        Kit.due("ready bytes are 0 again", x.end(2), 10);
        x.feed(0x41424344, 0, 0, 0, 0);
        Kit.due("end(0) answers a number", x.end(0), 10);
        Kit.due("so they are 0 again", x.end(1), 11);
        x.write(0);
        int[] want = {0, 0, 0, 0x61, 0x62, 0x63, 0x64, 0x65, 0, 0, 0};
        for (int i = 0; i < want.length; i++) {
            Kit.due("ready byte " + i, x.content(0, i), want[i]);
        }
        x.feed(-1, -1, -1, -1, -1);
        x.end(0);
        x.end(20);
        x.write(0);
        for (int i = 0; i < 20; i++) {
            Kit.due("ready byte " + i + ", 0 again", x.content(0, 11 + i), 0);
        }
        x.cut(0, 11);
        x.feed(-1, -1, -1, -1, -1);
        x.clear();
        Kit.due("clear leaves the ready bytes", x.end(1), 1);
        x.write(0);
        Kit.due("ready byte after clear", x.content(0, 11), 255);
    }

    private static void limits() {
        TableVolumes x = withFile();
        for (int i = 1; i <= 204; i++) {
            Kit.due("end(20)", x.end(20), 20 * i);
        }
        x.feed(0x01000000, 0, 0, 0, 0);
        Kit.due("4080 + 17", x.end(17), TableVolumes.NONE);
        Kit.due("nothing came", x.end(15), 4095);
        Kit.due("4095 + 2", x.end(2), TableVolumes.NONE);
        Kit.due("4095 + 1", x.end(1), 4096);
        Kit.due("4096 + 1", x.end(1), TableVolumes.NONE);
        Kit.due("4096 + 0", x.end(0), 4096);
        Kit.due("least number", x.end(Integer.MIN_VALUE), TableVolumes.NONE);
        Kit.due("greatest number", x.end(Integer.MAX_VALUE), TableVolumes.NONE);
        Kit.due("write", x.write(0), 4096);
        Kit.due("byte 4080", x.content(0, 4080), 1);
    }

    private static void clear() {
        TableVolumes x = withFile();
        x.end(20);
        x.clear();
        Kit.due("after clear", Kit.tapeLength(x), 0);
        Kit.due("write of nothing", x.write(0), 0);
    }

    private static void usedUp() {
        TableVolumes x = new TableVolumes(256);
        x.end(7);
        Kit.throwsDue("make without a volume", () -> x.make(false), Kit.STATE);
        Kit.due("used up by make", Kit.tapeLength(x), 0);
        x.end(7);
        Kit.throwsDue("write without a volume", () -> x.write(0), Kit.STATE);
        Kit.due("used up by write", Kit.tapeLength(x), 0);
        x.end(7);
        Kit.throwsDue("grow without a volume", () -> x.grow(0, 1, 1), Kit.STATE);
        Kit.due("not read by grow", Kit.tapeLength(x), 7);
        Kit.throwsDue("format", () -> x.format(3, 8, 2, 0), Kit.ARGUMENT);
        Kit.due("used up by a format that throws", Kit.tapeLength(x), 0);
        Kit.tape(x, "LABEL");
        x.format(2, 8, 2, 0);
        Kit.due("used up by format", Kit.tapeLength(x), 0);
        x.end(2);
        Kit.throwsDue("write of no item", () -> x.write(0), Kit.INDEX);
        Kit.due("used up by a write that throws", Kit.tapeLength(x), 0);
        x.end(2);
        Kit.throwsDue("make of no name", () -> x.make(false), Kit.ARGUMENT);
        Kit.due("used up by a make that throws", Kit.tapeLength(x), 0);
        Kit.makeFile(x, "F");
        Kit.due("used up by make", Kit.tapeLength(x), 0);
        Kit.writeText(x, 0, "text");
        Kit.due("used up by write", Kit.tapeLength(x), 0);
        x.end(5);
        x.grow(0, 5, 5);
        x.cut(0, 2);
        x.stamp(0, 4, 0, 1);
        x.remove(0);
        x.poke(0, 0, 0);
        x.fault();
        Kit.due("other calls leave it", Kit.tapeLength(x), 5);
    }

    private TapeTest() {
    }
}
