import java.util.Arrays;

/** A volume of chained clusters with long names on a disk of its own; DOC.md tells what each call promises. */
public final class TableVolumes {
    public static final int NONE = -1;

    private static final int UNKNOWN = -1;
    private static final int CHAIN_END = 268435455;
    private static final int LEAST_END = 268435448;
    private static final int EMPTY_SLOT = 229;
    private static final int SLOT_BYTES = 32;
    private static final int BLANK = 32;
    private static final int POINT = 46;
    private static final int READ_ONLY = 1;
    private static final int LABEL = 8;
    private static final int DIRECTORY = 16;
    private static final int ARCHIVE = 32;
    private static final int PART = 15;
    private static final int FIRST_DAY = 33;
    private static final int MOST_GROWTH = 400000;

    private final Disk disk;
    private final Tape tape;
    private final Volume volume;
    private final Checker checker;
    private final Directory here;
    private final Directory below;
    private final Name name;
    private final Name otherName;
    private final ShortName shortName;
    // 0 stands for the root, as it does in the ".." of the root's directories
    private int place;
    private int knownFault;

    public TableVolumes(int sectors) {
        int bounded = Math.max(256, Math.min(1024, sectors));
        disk = new Disk(bounded - (bounded & 1));
        tape = new Tape();
        volume = new Volume(disk);
        checker = new Checker(volume);
        here = new Directory(volume);
        below = new Directory(volume);
        name = new Name();
        otherName = new Name();
        shortName = new ShortName();
        place = 0;
        knownFault = UNKNOWN;
    }

    public void feed(int a, int b, int c, int d, int e) {
        tape.prepare(a, b, c, d, e);
    }

    public int end(int n) {
        return tape.append(n);
    }

    public void clear() {
        tape.take();
    }

    public int format(int cluster, int before, int tables, int id) throws IllegalArgumentException {
        int letters = tape.take();
        int tableSectors = volume.leastTable(cluster, before, tables);
        if (tableSectors == 0 || !shortName.readLabel(tape, letters)) {
            throw new IllegalArgumentException("no such volume or no label");
        }
        disk.wipe();
        volume.lay(cluster, before, tables, tableSectors, id);
        if (letters > 0) {
            writeEntry(volume.addressOf(volume.root), LABEL, 0);
        }
        forgetState();
        return volume.clusters;
    }

    public boolean poke(int sector, int at, int value) {
        if (!disk.has(sector, at)) {
            return false;
        }
        disk.putOne(sector * 512 + at, value);
        forgetState();
        return true;
    }

    public int fault() {
        if (knownFault == UNKNOWN) {
            knownFault = checker.firstFault();
        }
        return knownFault;
    }

    public int byteAt(int sector, int at) {
        if (!disk.has(sector, at)) {
            return NONE;
        }
        if (volume.readSectorZero() && !volume.inUse(sector)) {
            return NONE;
        }
        return disk.one(sector * 512 + at);
    }

    public int free() {
        return volume.readSectorZero() ? volume.freeClusters() : NONE;
    }

    public int items() throws IllegalStateException {
        openHere();
        return here.count;
    }

    public int letter(int k, int i) throws IllegalStateException, IndexOutOfBoundsException {
        openHere();
        itemAt(k);
        name.read(here, here.slotOf(k), here.partsOf(k));
        return name.encodedByte(i);
    }

    public long about(int k, int what)
            throws IllegalStateException, IndexOutOfBoundsException, IllegalArgumentException {
        openHere();
        int at = itemAt(k);
        switch (what) {
            case 0:
                return isDirectory(at) ? 1 : 0;
            case 1:
                return disk.one(at + 11) & READ_ONLY;
            case 2:
                return secondsOfRead(at);
            case 3:
                return secondsOfMade(at);
            case 4:
                return secondsOfWritten(at);
            case 5:
                return disk.four(at + 28);
            case 6:
                return here.partsOf(k);
            default:
                throw new IllegalArgumentException("no such thing to know");
        }
    }

    public int content(int k, int at) throws IllegalStateException, IndexOutOfBoundsException {
        openHere();
        int entry = itemAt(k);
        // a directory's size is 0, so it has no bytes either
        if (at < 0 || at >= disk.four(entry + 28)) {
            return NONE;
        }
        int cluster = volume.later(disk.firstCluster(entry), at >> volume.byteShift());
        return disk.one(volume.addressOf(cluster) + (at & volume.byteMask()));
    }

    public int enter(int k) throws IllegalStateException, IndexOutOfBoundsException, IllegalArgumentException {
        openHere();
        int at = itemAt(k);
        if (!isDirectory(at)) {
            throw new IllegalArgumentException("a file");
        }
        place = disk.firstCluster(at);
        here.list(place);
        return here.count;
    }

    public boolean up() throws IllegalStateException {
        openHere();
        if (place == 0) {
            return false;
        }
        place = disk.firstCluster(here.slotAddress(1));
        return true;
    }

    public int make(boolean directory)
            throws IllegalStateException, IllegalArgumentException, UnsupportedOperationException {
        int bytes = tape.take();
        openHere();
        if (!name.readTape(tape, bytes) || isAlikeHere()) {
            throw new IllegalArgumentException("no name, or one that is here");
        }
        boolean plain = shortName.readShown(name);
        if (plain && here.hasShort(shortName)) {
            throw new IllegalArgumentException("a short name that is here");
        }
        if (!plain) {
            chooseTail();
        }
        int parts = plain ? 0 : name.partsWanted();
        int first = here.roomFor(parts + 1);
        int added = here.clustersMissing(first + parts + 1);
        if (volume.freeClusters() < added + (directory ? 1 : 0)) {
            throw new UnsupportedOperationException("no room");
        }
        int own = directory ? makeDirectory() : 0;
        here.lengthen(added);
        placeEntry(first, parts, directory ? DIRECTORY + ARCHIVE : ARCHIVE, own);
        return here.itemsBefore(first);
    }

    public int write(int k) throws IllegalStateException, IndexOutOfBoundsException, IllegalArgumentException,
            UnsupportedOperationException {
        int bytes = tape.take();
        openHere();
        return lengthenFile(fileAt(k), bytes, true, 0);
    }

    public int grow(int k, int n, int seed) throws IllegalStateException, IndexOutOfBoundsException,
            IllegalArgumentException, UnsupportedOperationException {
        openHere();
        int at = fileAt(k);
        if (n < 0 || n > MOST_GROWTH) {
            throw new IllegalArgumentException("no such growth");
        }
        return lengthenFile(at, n, false, seed);
    }

    public int cut(int k, int size) throws IllegalStateException, IndexOutOfBoundsException, IllegalArgumentException {
        openHere();
        int at = fileAt(k);
        int oldSize = disk.four(at + 28);
        if (size < 0 || size > oldSize) {
            throw new IllegalArgumentException("no such size");
        }
        int kept = volume.clustersFor(size);
        int freed = volume.clustersFor(oldSize) - kept;
        if (freed > 0) {
            shorten(at, kept);
        }
        disk.putFour(at + 28, size);
        return freed;
    }

    public void remove(int k) throws IllegalStateException, IndexOutOfBoundsException, IllegalArgumentException {
        openHere();
        int at = itemAt(k);
        int cluster = disk.firstCluster(at);
        if (isDirectory(at)) {
            below.list(cluster);
            if (below.count > 0) {
                throw new IllegalArgumentException("a directory with items");
            }
        }
        int last = here.slotOf(k);
        for (int slot = last - here.partsOf(k); slot <= last; slot++) {
            disk.putOne(here.slotAddress(slot), EMPTY_SLOT);
        }
        volume.release(cluster);
    }

    public void stamp(int k, int what, int day, int time)
            throws IllegalStateException, IndexOutOfBoundsException, IllegalArgumentException {
        openHere();
        int at = itemAt(k);
        if (!stampFits(at, what, day, time)) {
            throw new IllegalArgumentException("no such stamp");
        }
        switch (what) {
            case 0:
                disk.putTwo(at + 14, time);
                disk.putTwo(at + 16, day);
                break;
            case 1:
                disk.putTwo(at + 18, day);
                break;
            case 2:
                disk.putTwo(at + 22, time);
                disk.putTwo(at + 24, day);
                break;
            case 3:
                disk.putOne(at + 13, time);
                break;
            default:
                disk.putOne(at + 11, (disk.one(at + 11) & ~READ_ONLY) | time);
                break;
        }
    }

    private void forgetState() {
        place = 0;
        knownFault = UNKNOWN;
    }

    private void openHere() {
        // changes keep a sound volume sound, so only format and poke make it unknown again
        if (knownFault == UNKNOWN) {
            knownFault = checker.firstFault();
        }
        if (knownFault != 0) {
            throw new IllegalStateException("no sound table volume");
        }
        here.list(place == 0 ? volume.root : place);
    }

    private int itemAt(int k) {
        if (k < 0 || k >= here.count) {
            throw new IndexOutOfBoundsException("no such item here");
        }
        return here.slotAddress(here.slotOf(k));
    }

    private int fileAt(int k) {
        int at = itemAt(k);
        if (isDirectory(at)) {
            throw new IllegalArgumentException("a directory");
        }
        return at;
    }

    private boolean isDirectory(int at) {
        return (disk.one(at + 11) & DIRECTORY) != 0;
    }

    private long secondsOfWritten(int at) {
        return Days.seconds(disk.two(at + 24), disk.two(at + 22));
    }

    private long secondsOfRead(int at) {
        int day = disk.two(at + 18);
        return day == 0 ? secondsOfWritten(at) : Days.seconds(day, 0);
    }

    private long secondsOfMade(int at) {
        int day = disk.two(at + 16);
        if (day == 0) {
            return secondsOfWritten(at);
        }
        return Days.seconds(day, disk.two(at + 14)) + disk.one(at + 13) / 100;
    }

    private boolean stampFits(int at, int what, int day, int time) {
        switch (what) {
            case 0:
                return Days.madeAsTold(day, time, disk.one(at + 13));
            case 1:
                return time == 0 && (day == 0 || Days.dayAsTold(day));
            case 2:
                return Days.dayAsTold(day) && Days.timeAsTold(time);
            case 3:
                return Days.madeAsTold(disk.two(at + 16), disk.two(at + 14), time);
            case 4:
                return time == 0 || time == 1;
            default:
                return false;
        }
    }

    private boolean isAlikeHere() {
        for (int i = 0; i < here.count; i++) {
            otherName.read(here, here.slotOf(i), here.partsOf(i));
            if (name.isAlike(otherName)) {
                return true;
            }
        }
        return false;
    }

    private void chooseTail() {
        shortName.readLong(name);
        // each number gives another short name, so one more than there are items is enough
        for (int k = 1; k <= here.count + 1; k++) {
            shortName.setTail(k);
            if (!here.hasShort(shortName)) {
                return;
            }
        }
    }

    private int makeDirectory() {
        int cluster = volume.claimLowest();
        int at = volume.addressOf(cluster);
        writePoints(at, 1, cluster);
        writePoints(at + SLOT_BYTES, 2, place);
        return cluster;
    }

    private void writePoints(int at, int points, int cluster) {
        disk.fill(at, 11, BLANK);
        disk.fill(at, points, POINT);
        disk.putOne(at + 11, DIRECTORY);
        disk.putFirstCluster(at, cluster);
        disk.putTwo(at + 24, FIRST_DAY);
    }

    private void writeEntry(int at, int bits, int cluster) {
        disk.fill(at, SLOT_BYTES, 0);
        shortName.store(disk, at);
        disk.putOne(at + 11, bits);
        disk.putTwo(at + 24, FIRST_DAY);
        disk.putFirstCluster(at, cluster);
    }

    private void placeEntry(int first, int parts, int bits, int cluster) {
        int slot = first + parts;
        writeEntry(here.slotAddress(slot), bits, cluster);
        for (int part = 1; part <= parts; part++) {
            int number = part == parts ? part + 64 : part;
            name.writePart(disk, here.slotAddress(slot - part), part, number, shortName.sum());
        }
        int behind = slot + 1;
        if (behind >= here.looked && behind < here.slots) {
            disk.putOne(here.slotAddress(behind), 0);
        }
    }

    private int lengthenFile(int at, int n, boolean taped, int seed) {
        int size = disk.four(at + 28);
        makeRoom(at, n);
        FileEnd end = new FileEnd(volume, at);
        for (int i = 0; i < n; i++) {
            end.append(taped ? tape.at(i) : seed + i * i + (i >> 8));
        }
        disk.putFour(at + 28, size + n);
        return size + n;
    }

    private void makeRoom(int at, int bytes) {
        int size = disk.four(at + 28);
        int added = volume.clustersFor(size + bytes) - volume.clustersFor(size);
        if (added > volume.freeClusters()) {
            throw new UnsupportedOperationException("no room");
        }
        int last = volume.last(disk.firstCluster(at));
        for (int i = 0; i < added; i++) {
            int cluster = volume.claimLowest();
            if (last == 0) {
                disk.putFirstCluster(at, cluster);
            } else {
                volume.link(last, cluster);
            }
            last = cluster;
        }
    }

    private void shorten(int at, int kept) {
        int first = disk.firstCluster(at);
        if (kept == 0) {
            disk.putFirstCluster(at, 0);
            volume.release(first);
            return;
        }
        int last = volume.later(first, kept - 1);
        int tail = volume.next(last);
        volume.link(last, CHAIN_END);
        volume.release(tail);
    }

    /** The bytes, four in a number, so that a disk stays small; addresses outside of it read as 0 and keep nothing. */
    private static final class Disk {
        final int sectors;
        private final int[] words;

        Disk(int sectors) {
            this.sectors = sectors;
            words = new int[sectors * 128];
        }

        boolean has(int sector, int at) {
            return sector >= 0 && sector < sectors && at >= 0 && at < 512;
        }

        int one(int at) {
            int index = at >> 2;
            if (index < 0 || index >= words.length) {
                return 0;
            }
            return words[index] >>> ((at & 3) << 3) & 255;
        }

        int two(int at) {
            int index = at >> 2;
            if (index < 0 || index >= words.length) {
                return 0;
            }
            int low = words[index] >>> ((at & 3) << 3);
            boolean split = (at & 3) == 3 && index + 1 < words.length;
            return (split ? low | words[index + 1] << 8 : low) & 65535;
        }

        /** Only for addresses that four divides, as are all that are read. */
        int four(int at) {
            int index = at >> 2;
            return index < 0 || index >= words.length ? 0 : words[index];
        }

        int firstCluster(int entry) {
            return two(entry + 20) << 16 | two(entry + 26);
        }

        void putOne(int at, int value) {
            int index = at >> 2;
            if (index >= 0 && index < words.length) {
                int shift = (at & 3) << 3;
                words[index] = words[index] & ~(255 << shift) | (value & 255) << shift;
            }
        }

        void putTwo(int at, int value) {
            putOne(at, value);
            putOne(at + 1, value >> 8);
        }

        void putFour(int at, int value) {
            putTwo(at, value);
            putTwo(at + 2, value >> 16);
        }

        void putFirstCluster(int entry, int cluster) {
            putTwo(entry + 20, cluster >> 16);
            putTwo(entry + 26, cluster);
        }

        void fill(int at, int bytes, int value) {
            for (int i = 0; i < bytes; i++) {
                putOne(at + i, value);
            }
        }

        void wipe() {
            Arrays.fill(words, 0);
        }

        void wipeSector(int sector) {
            for (int i = 0; i < 128; i++) {
                int index = sector * 128 + i;
                if (index >= 0 && index < words.length) {
                    words[index] = 0;
                }
            }
        }

        void copySector(int from, int to) {
            for (int i = 0; i < 512; i++) {
                putOne(to * 512 + i, one(from * 512 + i));
            }
        }

        boolean sameShortName(int at, int other) {
            return four(at) == four(other) && four(at + 4) == four(other + 4)
                    && (four(at + 8) & 0xFFFFFF) == (four(other + 8) & 0xFFFFFF);
        }
    }

    private static final class Tape {
        private static final int MOST = 4096;
        private static final int READY = 20;

        private final byte[] bytes = new byte[MOST];
        private final int[] ready = new int[5];
        private int length;

        void prepare(int a, int b, int c, int d, int e) {
            ready[0] = a;
            ready[1] = b;
            ready[2] = c;
            ready[3] = d;
            ready[4] = e;
        }

        int append(int n) {
            if (n < 0 || n > READY || length + n > MOST) {
                return NONE;
            }
            for (int i = 0; i < n; i++) {
                bytes[length + i] = (byte) (ready[i >> 2] >> (24 - ((i & 3) << 3)));
            }
            length += n;
            Arrays.fill(ready, 0);
            return length;
        }

        /** Uses the tape up; its bytes can still be read until the next ones come. */
        int take() {
            int taken = length;
            length = 0;
            return taken;
        }

        int at(int i) {
            return i < 0 || i >= MOST ? 0 : bytes[i] & 255;
        }
    }

    /** What sector 0 tells, and the tables. */
    private static final class Volume {
        final Disk disk;
        int root;
        int clusters;
        // a cluster has 1 << shift sectors
        private int shift = 1;
        private int before;
        private int tables;
        private int tableSectors;
        private int start;

        Volume(Disk disk) {
            this.disk = disk;
        }

        /** Takes the numbers of sector 0 only if all of it is as told. */
        boolean readSectorZero() {
            boolean fixed = disk.two(11) == 512 && disk.two(17) == 0 && disk.two(19) == 0 && disk.two(22) == 0
                    && disk.four(32) == disk.sectors && disk.two(48) == 1 && disk.two(50) == 6
                    && disk.two(510) == 43605;
            int cluster = disk.one(13);
            int first = disk.four(44);
            int size = disk.four(36);
            if (!fixed || !tableFits(cluster, disk.two(14), disk.one(16), size)) {
                return false;
            }
            if (first < 2 || first > clusterCount(cluster, disk.two(14) + disk.one(16) * size) + 1) {
                return false;
            }
            adopt(cluster, disk.two(14), disk.one(16), size, first);
            return true;
        }

        private void adopt(int cluster, int sectorsBefore, int tableCount, int size, int first) {
            shift = shiftOf(cluster);
            before = sectorsBefore;
            tables = tableCount;
            tableSectors = size;
            start = sectorsBefore + tableCount * size;
            clusters = clusterCount(cluster, start);
            root = first;
        }

        private static int shiftOf(int cluster) {
            return cluster == 8 ? 3 : cluster == 4 ? 2 : 1;
        }

        private int clusterCount(int cluster, int begin) {
            return (disk.sectors - begin) >> shiftOf(cluster);
        }

        private boolean tableFits(int cluster, int sectorsBefore, int tableCount, int size) {
            boolean numbers = (cluster == 2 || cluster == 4 || cluster == 8) && sectorsBefore >= 8
                    && sectorsBefore <= 64 && (tableCount == 1 || tableCount == 2) && size >= 1 && size <= 32;
            if (!numbers) {
                return false;
            }
            int count = clusterCount(cluster, sectorsBefore + tableCount * size);
            return count >= 4 && 128 * size >= count + 2;
        }

        /** The least number of sectors that a table does with, 0 if there is none. */
        int leastTable(int cluster, int sectorsBefore, int tableCount) {
            for (int size = 1; size <= 32; size++) {
                if (tableFits(cluster, sectorsBefore, tableCount, size)) {
                    return size;
                }
            }
            return 0;
        }

        /** Makes an empty volume on a disk that is all 0. */
        void lay(int cluster, int sectorsBefore, int tableCount, int size, int id) {
            disk.fill(3, 8, BLANK);
            disk.putTwo(11, 512);
            disk.putOne(13, cluster);
            disk.putTwo(14, sectorsBefore);
            disk.putOne(16, tableCount);
            disk.putFour(32, disk.sectors);
            disk.putFour(36, size);
            disk.putFour(44, 2);
            disk.putTwo(48, 1);
            disk.putTwo(50, 6);
            disk.putFour(67, id);
            disk.putTwo(510, 43605);
            disk.copySector(0, 6);
            disk.putFour(512, 0x41615252);
            disk.putFour(512 + 484, 0x61417272);
            disk.putFour(512 + 488, -1);
            disk.putFour(512 + 492, -1);
            disk.putFour(512 + 508, 0xAA550000);
            adopt(cluster, sectorsBefore, tableCount, size, 2);
            link(0, LEAST_END);
            link(1, CHAIN_END);
            link(2, CHAIN_END);
        }

        boolean isCluster(int cluster) {
            return cluster >= 2 && cluster <= clusters + 1;
        }

        int addressOf(int cluster) {
            return (start + ((cluster - 2) << shift)) << 9;
        }

        int byteShift() {
            return shift + 9;
        }

        int byteMask() {
            return (512 << shift) - 1;
        }

        /** Slots of a cluster are 1 << slotShift(). */
        int slotShift() {
            return shift + 4;
        }

        int clustersFor(int size) {
            return (size >> byteShift()) + ((size & byteMask()) == 0 ? 0 : 1);
        }

        boolean inUse(int sector) {
            if (sector < start) {
                return true;
            }
            int cluster = ((sector - start) >> shift) + 2;
            return isCluster(cluster) && next(cluster) != 0;
        }

        /** The lowest 28 bits of a cluster's entry in the first table. */
        int next(int cluster) {
            return disk.four(before * 512 + 4 * cluster) & CHAIN_END;
        }

        void link(int cluster, int value) {
            for (int table = 0; table < tables; table++) {
                int at = (before + table * tableSectors) * 512 + 4 * cluster;
                disk.putFour(at, disk.four(at) & ~CHAIN_END | value);
            }
        }

        boolean tablesAsTold() {
            if (next(0) != LEAST_END || next(1) != CHAIN_END) {
                return false;
            }
            for (int cluster = 0; cluster <= clusters + 1; cluster++) {
                int value = next(cluster);
                if (value != 0 && !isCluster(value) && value < LEAST_END) {
                    return false;
                }
                int at = before * 512 + 4 * cluster;
                if (tables == 2 && disk.four(at) != disk.four(at + tableSectors * 512)) {
                    return false;
                }
            }
            return true;
        }

        int freeClusters() {
            int found = 0;
            for (int cluster = 2; cluster <= clusters + 1; cluster++) {
                if (next(cluster) == 0) {
                    found++;
                }
            }
            return found;
        }

        /** Takes the lowest free cluster for the end of a chain; 0 if there is none. */
        int claimLowest() {
            for (int cluster = 2; cluster <= clusters + 1; cluster++) {
                if (next(cluster) == 0) {
                    link(cluster, CHAIN_END);
                    int sector = start + ((cluster - 2) << shift);
                    for (int i = 0; i < 1 << shift; i++) {
                        disk.wipeSector(sector + i);
                    }
                    return cluster;
                }
            }
            return 0;
        }

        /** The cluster that comes so many steps behind one in its chain. */
        int later(int cluster, int steps) {
            int found = cluster;
            for (int i = 0; i < steps && isCluster(found); i++) {
                found = next(found);
            }
            return found;
        }

        /** The last cluster of a chain, 0 if there is no chain. */
        int last(int first) {
            int found = 0;
            int cluster = first;
            for (int i = 0; i < clusters && isCluster(cluster); i++) {
                found = cluster;
                cluster = next(cluster);
            }
            return found;
        }

        void release(int first) {
            int cluster = first;
            for (int i = 0; i < clusters && isCluster(cluster); i++) {
                int following = next(cluster);
                link(cluster, 0);
                cluster = following;
            }
        }
    }

    /** Where the next byte of a file comes to, in clusters that it has already. */
    private static final class FileEnd {
        private final Volume volume;
        private final Disk disk;
        private int cluster;
        private int at;
        private int left;

        FileEnd(Volume volume, int entry) {
            this.volume = volume;
            disk = volume.disk;
            int size = disk.four(entry + 28);
            int offset = size & volume.byteMask();
            cluster = volume.later(disk.firstCluster(entry), size >> volume.byteShift());
            at = volume.addressOf(cluster) + offset;
            left = volume.byteMask() + 1 - offset;
        }

        void append(int value) {
            if (left == 0) {
                cluster = volume.next(cluster);
                at = volume.addressOf(cluster);
                left = volume.byteMask() + 1;
            }
            disk.putOne(at, value);
            at++;
            left--;
        }
    }

    /** The slots of one directory, and where its items are among them. */
    private static final class Directory {
        final Disk disk;
        int count;
        int slots;
        // how many slots are looked at
        int looked;
        private final Volume volume;
        private final int[] addresses;
        private int length;
        private int lastCluster;
        private int slotShift;
        private int[] entrySlots = new int[64];
        private int[] partCounts = new int[64];
        private int[] hashes = new int[64];

        Directory(Volume volume) {
            this.volume = volume;
            disk = volume.disk;
            addresses = new int[disk.sectors / 2];
        }

        void openChain(int first) {
            count = 0;
            length = 0;
            lastCluster = 0;
            int cluster = first;
            while (length < addresses.length && volume.isCluster(cluster)) {
                addresses[length] = volume.addressOf(cluster);
                length++;
                lastCluster = cluster;
                cluster = volume.next(cluster);
            }
            slotShift = volume.slotShift();
            slots = length << slotShift;
            looked = slots;
        }

        /** Only for directories of a sound volume. */
        void list(int first) {
            openChain(first);
            int parts = 0;
            for (int slot = 0; slot < slots; slot++) {
                int at = slotAddress(slot);
                int mark = disk.one(at);
                int bits = disk.one(at + 11);
                if (mark == 0) {
                    looked = slot;
                    return;
                }
                if (mark == EMPTY_SLOT) {
                    continue;
                }
                if ((bits & 63) == PART) {
                    parts++;
                    continue;
                }
                // no short name begins with a point, so these are "." and ".."
                if ((bits & LABEL) == 0 && mark != POINT) {
                    add(slot, parts, 0);
                }
                parts = 0;
            }
        }

        void add(int slot, int parts, int hash) {
            if (count == entrySlots.length) {
                entrySlots = Arrays.copyOf(entrySlots, 2 * count);
                partCounts = Arrays.copyOf(partCounts, 2 * count);
                hashes = Arrays.copyOf(hashes, 2 * count);
            }
            entrySlots[count] = slot;
            partCounts[count] = parts;
            hashes[count] = hash;
            count++;
        }

        int slotAddress(int slot) {
            int index = slot >> slotShift;
            if (index < 0 || index >= length) {
                return NONE;
            }
            return addresses[index] + (slot - (index << slotShift)) * SLOT_BYTES;
        }

        int slotOf(int k) {
            return k < 0 || k >= count ? NONE : entrySlots[k];
        }

        int partsOf(int k) {
            return k < 0 || k >= count ? 0 : partCounts[k];
        }

        int hashOf(int k) {
            return k < 0 || k >= count ? 0 : hashes[k];
        }

        boolean hasShort(ShortName wanted) {
            for (int i = 0; i < count; i++) {
                if (wanted.isAt(disk, slotAddress(entrySlots[i]))) {
                    return true;
                }
            }
            return false;
        }

        int itemsBefore(int slot) {
            int found = 0;
            for (int i = 0; i < count; i++) {
                if (entrySlots[i] < slot) {
                    found++;
                }
            }
            return found;
        }

        /** The first slot of the first so many that are to be had; the last of them may be missing in the chain. */
        int roomFor(int wanted) {
            int run = 0;
            for (int slot = 0; slot < slots; slot++) {
                boolean taken = slot < looked && disk.one(slotAddress(slot)) != EMPTY_SLOT;
                run = taken ? 0 : run + 1;
                if (run == wanted) {
                    return slot + 1 - wanted;
                }
            }
            return slots - run;
        }

        int clustersMissing(int wantedSlots) {
            int missing = wantedSlots - slots;
            return missing <= 0 ? 0 : ((missing - 1) >> slotShift) + 1;
        }

        void lengthen(int added) {
            for (int i = 0; i < added && length < addresses.length; i++) {
                int cluster = volume.claimLowest();
                volume.link(lastCluster, cluster);
                lastCluster = cluster;
                addresses[length] = volume.addressOf(cluster);
                length++;
            }
            slots = length << slotShift;
        }
    }

    /** The units of a name. */
    private static final class Name {
        private static final int PART_UNITS = 13;
        private static final int MOST = 255;
        private static final int[] PLACES = {1, 3, 5, 7, 9, 14, 16, 18, 20, 22, 24, 28, 30};

        private final int[] units = new int[20 * PART_UNITS];
        int length;

        int unit(int i) {
            return i < 0 || i >= units.length ? 0 : units[i];
        }

        int partsWanted() {
            return (length + PART_UNITS - 1) / PART_UNITS;
        }

        /** Of an entry in a slot, with so many parts (at most 20) before it. */
        void read(Directory directory, int slot, int parts) {
            length = 0;
            int at = directory.slotAddress(slot);
            for (int i = 0; parts == 0 && i < 11; i++) {
                int letter = directory.disk.one(at + i);
                if (i == 8 && letter != BLANK) {
                    units[length] = POINT;
                    length++;
                }
                if (letter != BLANK) {
                    units[length] = letter;
                    length++;
                }
            }
            int all = Math.min(parts * PART_UNITS, units.length);
            for (int i = 0; i < all; i++) {
                int place = i % PART_UNITS;
                if (place == 0) {
                    at = directory.slotAddress(slot - 1 - i / PART_UNITS);
                }
                units[i] = directory.disk.two(at + PLACES[place]);
            }
            while (length < all && units[length] != 0) {
                length++;
            }
        }

        /** Whether the tape has a name: two bytes a unit. */
        boolean readTape(Tape tape, int bytes) {
            length = 0;
            if ((bytes & 1) != 0 || bytes > 2 * MOST) {
                return false;
            }
            for (int i = 0; i < bytes / 2 && i < units.length; i++) {
                units[i] = tape.at(2 * i) << 8 | tape.at(2 * i + 1);
                length++;
            }
            return asTold();
        }

        boolean asTold() {
            if (length < 1 || length > MOST || length > units.length) {
                return false;
            }
            for (int i = 0; i < length; i++) {
                if (!Letters.mayStandInName(units[i])) {
                    return false;
                }
            }
            // this refuses . and .. as well
            return units[length - 1] != BLANK && units[length - 1] != POINT;
        }

        /** Whether the units behind the name are those that fill up so many parts, none of which is too many. */
        boolean fills(int parts) {
            if (partsWanted() != parts) {
                return false;
            }
            for (int i = length + 1; i < parts * PART_UNITS && i < units.length; i++) {
                if (units[i] != 65535) {
                    return false;
                }
            }
            return true;
        }

        void writePart(Disk disk, int at, int part, int number, int sum) {
            disk.fill(at, SLOT_BYTES, 0);
            disk.putOne(at, number);
            disk.putOne(at + 11, PART);
            disk.putOne(at + 13, sum);
            for (int i = 0; i < PART_UNITS; i++) {
                int index = (part - 1) * PART_UNITS + i;
                int filler = index == length ? 0 : 65535;
                disk.putTwo(at + PLACES[i], index < length ? unit(index) : filler);
            }
        }

        /** The same for names that are alike. */
        int hash() {
            int hash = length;
            for (int i = 0; i < length && i < units.length; i++) {
                hash = 31 * hash + Letters.capital(units[i]);
            }
            return hash;
        }

        boolean isAlike(Name other) {
            if (length != other.length) {
                return false;
            }
            for (int i = 0; i < length; i++) {
                if (Letters.capital(unit(i)) != Letters.capital(other.unit(i))) {
                    return false;
                }
            }
            return true;
        }

        int lastPoint() {
            for (int i = length - 1; i >= 0; i--) {
                if (unit(i) == POINT) {
                    return i;
                }
            }
            return NONE;
        }

        int encodedByte(int i) {
            int left = i;
            for (int u = 0; u < length && left >= 0; u++) {
                int unit = unit(u);
                int size = unit < 128 ? 1 : unit < 2048 ? 2 : 3;
                if (left < size) {
                    return Letters.encoded(unit, size, left);
                }
                left -= size;
            }
            return NONE;
        }
    }

    /** Eleven bytes, and the base that a tail is put behind. */
    private static final class ShortName {
        private final int[] bytes = new int[11];
        private final int[] base = new int[6];
        private int baseLength;

        /** Whether so many bytes of the tape are a label's short name, or none. */
        boolean readLabel(Tape tape, int letters) {
            if (letters > 11 || letters > 0 && tape.at(0) == BLANK) {
                return false;
            }
            Arrays.fill(bytes, BLANK);
            for (int i = 0; i < letters; i++) {
                int letter = tape.at(i);
                if (letter != BLANK && !Letters.mayStandInShortName(letter)) {
                    return false;
                }
                bytes[i] = letter;
            }
            return true;
        }

        /** Whether a name is a short name as shown; then it becomes this one. */
        boolean readShown(Name name) {
            Arrays.fill(bytes, BLANK);
            int at = 0;
            int stop = 8;
            for (int i = 0; i < name.length; i++) {
                int unit = name.unit(i);
                if (unit == POINT && at > 0 && stop == 8) {
                    at = 8;
                    stop = 11;
                } else if (at < stop && Letters.mayStandInShortName(unit)) {
                    bytes[at] = unit;
                    at++;
                } else {
                    return false;
                }
            }
            return at > 0 && (stop == 8 || at > 8);
        }

        /** Takes base and extension of a name that wants a tail. */
        void readLong(Name name) {
            int point = name.lastPoint();
            int stop = point > 0 ? point : name.length;
            Arrays.fill(bytes, BLANK);
            baseLength = 0;
            for (int i = 0; i < stop && baseLength < base.length; i++) {
                int letter = Letters.shortened(name.unit(i));
                if (letter != 0) {
                    base[baseLength] = letter;
                    baseLength++;
                }
            }
            int at = 8;
            for (int i = stop + 1; i < name.length && at < 11; i++) {
                int letter = Letters.shortened(name.unit(i));
                if (letter != 0) {
                    bytes[at] = letter;
                    at++;
                }
            }
        }

        void setTail(int k) {
            int digits = 1;
            for (int rest = k / 10; rest > 0 && digits < 7; rest /= 10) {
                digits++;
            }
            int kept = Math.min(7 - digits, baseLength);
            for (int i = 0; i < 8; i++) {
                bytes[i] = i < kept ? base[i] : BLANK;
            }
            bytes[kept] = '~';
            int rest = k;
            for (int i = kept + digits; i > kept; i--) {
                bytes[i] = '0' + rest % 10;
                rest /= 10;
            }
        }

        int sum() {
            int sum = 0;
            for (int i = 0; i < 11; i++) {
                sum = (((sum & 1) << 7) + (sum >> 1) + bytes[i]) & 255;
            }
            return sum;
        }

        void load(Disk disk, int at) {
            for (int i = 0; i < 11; i++) {
                bytes[i] = disk.one(at + i);
            }
        }

        void store(Disk disk, int at) {
            for (int i = 0; i < 11; i++) {
                disk.putOne(at + i, bytes[i]);
            }
        }

        boolean isAt(Disk disk, int at) {
            for (int i = 0; i < 11; i++) {
                if (disk.one(at + i) != bytes[i]) {
                    return false;
                }
            }
            return true;
        }

        boolean asTold(boolean label) {
            if (bytes[0] == BLANK) {
                return false;
            }
            for (int i = 0; i < 11; i++) {
                // in the middle of the 8 or the 3 a blank must be the last of what there is
                boolean afterBlank = i != 0 && i != 8 && bytes[i - 1] == BLANK;
                if (bytes[i] != BLANK && (!Letters.mayStandInShortName(bytes[i]) || afterBlank && !label)) {
                    return false;
                }
            }
            return true;
        }
    }

    /** Looks for the first fault of a volume. */
    private static final class Checker {
        private final Volume volume;
        private final Disk disk;
        private final Directory directory;
        private final Name name = new Name();
        private final Name earlierName = new Name();
        private final ShortName shortName = new ShortName();
        private final boolean[] claimed;
        private final int[] queue;
        private final int[] parents;
        private int queued;

        Checker(Volume volume) {
            this.volume = volume;
            disk = volume.disk;
            directory = new Directory(volume);
            claimed = new boolean[disk.sectors / 2 + 2];
            queue = new int[disk.sectors / 2 + 2];
            parents = new int[disk.sectors / 2 + 2];
        }

        int firstFault() {
            if (!volume.readSectorZero()) {
                return 1;
            }
            if (!volume.tablesAsTold()) {
                return 2;
            }
            for (int i = 0; i < claimed.length; i++) {
                claimed[i] = false;
            }
            queued = 0;
            enqueue(volume.root, 0);
            for (int turn = 0; turn < queued; turn++) {
                int fault = directoryFault(queue[turn], parents[turn], turn == 0);
                if (fault != 0) {
                    return fault;
                }
            }
            return hasLostCluster() ? 6 : 0;
        }

        private boolean hasLostCluster() {
            for (int cluster = 2; cluster <= volume.clusters + 1; cluster++) {
                if (volume.next(cluster) != 0 && !claimed[cluster]) {
                    return true;
                }
            }
            return false;
        }

        private void enqueue(int first, int parent) {
            // more directories than clusters can't all be right: a fault comes before the turn of those left out
            if (queued < queue.length) {
                queue[queued] = first;
                parents[queued] = parent;
                queued++;
            }
        }

        /** How many clusters a chain has that are all its own; NONE if it is not as told. */
        private int claimChain(int first) {
            int cluster = first;
            for (int length = 1; length <= volume.clusters; length++) {
                if (!volume.isCluster(cluster) || claimed[cluster]) {
                    return NONE;
                }
                int next = volume.next(cluster);
                if (next == 0) {
                    return NONE;
                }
                claimed[cluster] = true;
                if (next >= LEAST_END) {
                    return length;
                }
                cluster = next;
            }
            return NONE;
        }

        private int directoryFault(int first, int parent, boolean root) {
            if (claimChain(first) == NONE) {
                return 3;
            }
            directory.openChain(first);
            if (!root && !(pointsAsTold(0, first) && pointsAsTold(1, parent))) {
                return 4;
            }
            int parts = 0;
            int labels = 0;
            for (int slot = root ? 0 : 2; slot < directory.slots; slot++) {
                int at = directory.slotAddress(slot);
                int mark = disk.one(at);
                int bits = disk.one(at + 11);
                if (mark == 0 || mark == EMPTY_SLOT && parts > 0) {
                    break;
                }
                if (mark == EMPTY_SLOT) {
                    continue;
                }
                if ((bits & 63) == PART) {
                    parts++;
                    continue;
                }
                labels += (bits & LABEL) != 0 ? 1 : 0;
                int fault = timesAsTold(at) ? entryFault(slot, at, parts, root && labels < 2) : 4;
                if (fault != 0) {
                    return fault;
                }
                if ((bits & DIRECTORY) != 0) {
                    enqueue(disk.firstCluster(at), root ? 0 : first);
                } else if (!fileChainAsTold(at)) {
                    return 3;
                }
                parts = 0;
            }
            // parts that are left have no entry directly behind them
            return parts > 0 ? 4 : 0;
        }

        private boolean pointsAsTold(int slot, int cluster) {
            int at = directory.slotAddress(slot);
            for (int i = 0; i < 11; i++) {
                if (disk.one(at + i) != (i <= slot ? POINT : BLANK)) {
                    return false;
                }
            }
            return disk.one(at + 11) == DIRECTORY && disk.firstCluster(at) == cluster;
        }

        /** All of an entry but its times and its chain; 4 and 5 alone come of it. */
        private int entryFault(int slot, int at, int parts, boolean mayBeLabel) {
            int bits = disk.one(at + 11);
            boolean label = (bits & LABEL) != 0;
            shortName.load(disk, at);
            if (bits > 63 || !shortName.asTold(label)) {
                return 4;
            }
            if (label) {
                boolean bare = (bits & DIRECTORY) == 0 && disk.firstCluster(at) == 0 && disk.four(at + 28) == 0;
                return mayBeLabel && parts == 0 && bare ? 0 : 4;
            }
            if ((bits & DIRECTORY) != 0 && disk.four(at + 28) != 0 || !partsAsTold(slot, parts)) {
                return 4;
            }
            name.read(directory, slot, parts);
            if (!name.asTold() || parts > 0 && !name.fills(parts)) {
                return 4;
            }
            int hash = name.hash();
            if (isTwin(at, hash)) {
                return 5;
            }
            directory.add(slot, parts, hash);
            return 0;
        }

        private boolean timesAsTold(int at) {
            int read = disk.two(at + 18);
            return Days.madeAsTold(disk.two(at + 16), disk.two(at + 14), disk.one(at + 13))
                    && (read == 0 || Days.dayAsTold(read))
                    && Days.dayAsTold(disk.two(at + 24)) && Days.timeAsTold(disk.two(at + 22));
        }

        /** Whether an entry before has the short name, or a name like the one that was read last. */
        private boolean isTwin(int at, int hash) {
            for (int i = 0; i < directory.count; i++) {
                int earlier = directory.slotOf(i);
                if (disk.sameShortName(at, directory.slotAddress(earlier))) {
                    return true;
                }
                if (directory.hashOf(i) == hash) {
                    earlierName.read(directory, earlier, directory.partsOf(i));
                    if (name.isAlike(earlierName)) {
                        return true;
                    }
                }
            }
            return false;
        }

        private boolean partsAsTold(int slot, int parts) {
            if (parts > 20) {
                return false;
            }
            int sum = shortName.sum();
            for (int part = 1; part <= parts; part++) {
                int at = directory.slotAddress(slot - part);
                if (disk.one(at) != (part == parts ? part + 64 : part) || disk.one(at + 12) != 0
                        || disk.one(at + 13) != sum || disk.two(at + 26) != 0) {
                    return false;
                }
            }
            return true;
        }

        private boolean fileChainAsTold(int at) {
            int size = disk.four(at + 28);
            int first = disk.firstCluster(at);
            if (size == 0) {
                return first == 0;
            }
            // what is negative here is a size above any disk's
            return size > 0 && claimChain(first) == volume.clustersFor(size);
        }
    }

    /** What characters may do in names. */
    private static final class Letters {
        private static final String SHORT_SIGNS = "!#$%&'()-@^_`{}~";
        private static final String FORBIDDEN = "\"*/:<>?\\|";

        static boolean mayStandInShortName(int letter) {
            return letter >= 'A' && letter <= 'Z' || letter >= '0' && letter <= '9'
                    || letter < 128 && letter >= 0 && SHORT_SIGNS.indexOf((char) letter) >= 0;
        }

        static boolean mayStandInName(int unit) {
            if (unit < 32 || unit == 127 || unit >= 55296 && unit <= 57343 || unit > 65533) {
                return false;
            }
            return unit > 127 || FORBIDDEN.indexOf((char) unit) < 0;
        }

        static int capital(int unit) {
            return unit >= 'a' && unit <= 'z' ? unit - 32 : unit;
        }

        /** What becomes of a unit in a short name with a tail; 0 if it goes. */
        static int shortened(int unit) {
            if (unit == BLANK || unit == POINT) {
                return 0;
            }
            int letter = capital(unit);
            return mayStandInShortName(letter) ? letter : '_';
        }

        static int encoded(int unit, int size, int place) {
            if (size == 1) {
                return unit;
            }
            if (place > 0) {
                return 128 | unit >> 6 * (size - 1 - place) & 63;
            }
            return size == 2 ? 192 | unit >> 6 : 224 | unit >> 12;
        }
    }

    /** Days and times as entries hold them. */
    private static final class Days {
        private static final int WITHOUT_FEBRUARY = 337;
        private static final int[] MONTHS = {31, 28, 31, 30, 31, 30, 31, 31, 30, 31, 30, 31};

        private static int daysOfMonth(int year, int month) {
            if (month < 1 || month > 12) {
                return 0;
            }
            boolean leap = year % 4 == 0 && (year % 100 != 0 || year % 400 == 0);
            return month == 2 && leap ? 29 : MONTHS[month - 1];
        }

        static boolean dayAsTold(int day) {
            if (day < 0 || day > 65535) {
                return false;
            }
            int number = day & 31;
            return number >= 1 && number <= daysOfMonth(1980 + (day >> 9), day >> 5 & 15);
        }

        static boolean timeAsTold(int time) {
            return time >= 0 && time >> 11 < 24 && (time >> 5 & 63) < 60 && (time & 31) < 30;
        }

        static boolean madeAsTold(int day, int time, int hundredths) {
            if (day == 0) {
                return time == 0 && hundredths == 0;
            }
            return dayAsTold(day) && timeAsTold(time) && hundredths >= 0 && hundredths <= 199;
        }

        /** From 1 January 1970 on. */
        static long seconds(int day, int time) {
            int year = 1980 + (day >> 9);
            int days = (day & 31) - 1;
            for (int earlier = 1970; earlier < year; earlier++) {
                days += WITHOUT_FEBRUARY + daysOfMonth(earlier, 2);
            }
            for (int month = 1; month < (day >> 5 & 15); month++) {
                days += daysOfMonth(year, month);
            }
            return days * 86400L + (time >> 11) * 3600 + (time >> 5 & 63) * 60 + (time & 31) * 2;
        }
    }
}
