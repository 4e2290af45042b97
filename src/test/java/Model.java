import java.io.ByteArrayOutputStream;
import java.nio.charset.StandardCharsets;
import java.time.DateTimeException;
import java.time.LocalDate;
import java.time.LocalTime;
import java.time.ZoneOffset;
import java.util.ArrayDeque;
import java.util.ArrayList;
import java.util.Arrays;
import java.util.HashSet;
import java.util.List;
import java.util.Set;

/** The document told a second time, as plainly as the Java library lets it, to hold the class against. */
final class Model {
    private static final String SHORT = "ABCDEFGHIJKLMNOPQRSTUVWXYZ0123456789!#$%&'()-@^_`{}~";
    private static final int[] PLACES = {1, 3, 5, 7, 9, 14, 16, 18, 20, 22, 24, 28, 30};

    final int sectors;
    final byte[] disk;
    private final byte[] ready = new byte[20];
    private final ByteArrayOutputStream tape = new ByteArrayOutputStream();
    /** First clusters on the way from the root (left out) to HERE. */
    private final List<Integer> way = new ArrayList<>();

    private int sectorsOfCluster;
    private int before;
    private int tables;
    private int tableSectors;
    private int clusters;
    private int root;

    /** A fault that was found, to leave the search with. */
    private static final class Fault extends RuntimeException {
        private static final long serialVersionUID = 1L;
        final int number;

        Fault(int number) {
            super(null, null, false, false);
            this.number = number;
        }
    }

    /** An item: where its slots begin on the disk, the entry's last. */
    static final class Item {
        final List<Integer> slots = new ArrayList<>();
        int firstIndex;
        String name;
        String shortBytes;

        int entry() {
            return slots.get(slots.size() - 1);
        }
    }

    Model(int wanted) {
        int n = wanted < 256 ? 256 : wanted > 1024 ? 1024 : wanted;
        sectors = n / 2 * 2;
        disk = new byte[sectors * 512];
    }

    long get(int at, int n) {
        long value = 0;
        for (int i = 0; i < n; i++) {
            value += (disk[at + i] & 255L) << (8 * i);
        }
        return value;
    }

    private void set(int at, int n, long value) {
        for (int i = 0; i < n; i++) {
            disk[at + i] = (byte) (value >> (8 * i));
        }
    }

    private String latin(int at, int n) {
        return new String(disk, at, n, StandardCharsets.ISO_8859_1);
    }

    private void setLatin(int at, String text) {
        byte[] bytes = text.getBytes(StandardCharsets.ISO_8859_1);
        System.arraycopy(bytes, 0, disk, at, bytes.length);
    }

    // ---- the tape

    void feed(int... words) {
        for (int i = 0; i < 20; i++) {
            ready[i] = (byte) (words[i / 4] >>> (24 - 8 * (i % 4)));
        }
    }

    int end(int n) {
        if (n < 0 || n > 20 || tape.size() + n > 4096) {
            return -1;
        }
        tape.write(ready, 0, n);
        Arrays.fill(ready, (byte) 0);
        return tape.size();
    }

    void clear() {
        tape.reset();
    }

    private byte[] takeTape() {
        byte[] bytes = tape.toByteArray();
        tape.reset();
        return bytes;
    }

    // ---- the whole disk

    int format(int cluster, int vBefore, int vTables, int id) {
        String label = new String(takeTape(), StandardCharsets.ISO_8859_1);
        boolean fits = List.of(2, 4, 8).contains(cluster) && vBefore >= 8 && vBefore <= 64
                && List.of(1, 2).contains(vTables) && label.length() <= 11 && !label.startsWith(" ")
                && label.chars().allMatch(c -> c == ' ' || SHORT.indexOf(c) >= 0);
        if (!fits) {
            throw new IllegalArgumentException();
        }
        int z = 1;
        while ((sectors - vBefore - vTables * z) / cluster + 2 > 128 * z) {
            z++;
        }
        Arrays.fill(disk, (byte) 0);
        setLatin(3, " ".repeat(8));
        set(11, 2, 512);
        set(13, 1, cluster);
        set(14, 2, vBefore);
        set(16, 1, vTables);
        set(32, 4, sectors);
        set(36, 4, z);
        set(44, 4, 2);
        set(48, 2, 1);
        set(50, 2, 6);
        set(67, 4, id);
        set(510, 2, 43605);
        System.arraycopy(disk, 0, disk, 6 * 512, 512);
        set(512, 4, 1096897106L);
        set(512 + 484, 4, 1631679090L);
        set(512 + 488, 4, 4294967295L);
        set(512 + 492, 4, 4294967295L);
        set(512 + 508, 4, 2857697280L);
        for (int t = 0; t < vTables; t++) {
            int at = (vBefore + t * z) * 512;
            set(at, 4, 268435448);
            set(at + 4, 4, 268435455);
            set(at + 8, 4, 268435455);
        }
        if (!label.isEmpty()) {
            int at = (vBefore + vTables * z) * 512;
            setLatin(at, (label + " ".repeat(11)).substring(0, 11));
            set(at + 11, 1, 8);
            set(at + 24, 2, 33);
        }
        way.clear();
        return (sectors - vBefore - vTables * z) / cluster;
    }

    boolean poke(int sector, int at, int value) {
        if (sector < 0 || sector >= sectors || at < 0 || at >= 512) {
            return false;
        }
        disk[sector * 512 + at] = (byte) value;
        way.clear();
        return true;
    }

    int byteAt(int sector, int at) {
        if (sector < 0 || sector >= sectors || at < 0 || at >= 512) {
            return -1;
        }
        if (sectorZero()) {
            int begin = before + tables * tableSectors;
            if (sector >= begin + clusters * sectorsOfCluster) {
                return -1;
            }
            if (sector >= begin && entry(0, (sector - begin) / sectorsOfCluster + 2) == 0) {
                return -1;
            }
        }
        return disk[sector * 512 + at] & 255;
    }

    int free() {
        return sectorZero() ? freeList().size() : -1;
    }

    private List<Integer> freeList() {
        List<Integer> list = new ArrayList<>();
        for (int c = 2; c <= clusters + 1; c++) {
            if (entry(0, c) == 0) {
                list.add(c);
            }
        }
        return list;
    }

    private int tableAt(int table, int cluster) {
        return (before + table * tableSectors) * 512 + 4 * cluster;
    }

    private long entry(int table, int cluster) {
        return get(tableAt(table, cluster), 4) % (1L << 28);
    }

    private void setEntry(int cluster, long value) {
        for (int t = 0; t < tables; t++) {
            int at = tableAt(t, cluster);
            long high = get(at, 4) >> 28;
            set(at, 4, (high << 28) + value);
        }
    }

    // ---- the faults

    private boolean sectorZero() {
        long c = get(13, 1);
        long v = get(14, 2);
        long y = get(16, 1);
        long z = get(36, 4);
        if (get(11, 2) != 512 || !(c == 2 || c == 4 || c == 8) || v < 8 || v > 64 || y < 1 || y > 2) {
            return false;
        }
        if (get(17, 2) != 0 || get(19, 2) != 0 || get(22, 2) != 0 || get(32, 4) != sectors || z < 1 || z > 32) {
            return false;
        }
        if (get(48, 2) != 1 || get(50, 2) != 6 || get(510, 2) != 43605) {
            return false;
        }
        long k = (sectors - (v + y * z)) / c;
        long first = get(44, 4);
        if (k < 4 || 128 * z < k + 2 || first < 2 || first > k + 1) {
            return false;
        }
        sectorsOfCluster = (int) c;
        before = (int) v;
        tables = (int) y;
        tableSectors = (int) z;
        clusters = (int) k;
        root = (int) first;
        return true;
    }

    int fault() {
        if (!sectorZero()) {
            return 1;
        }
        try {
            lookAtTables();
            Set<Integer> used = new HashSet<>();
            ArrayDeque<int[]> turns = new ArrayDeque<>();
            turns.add(new int[] {root, 0, 1});
            while (!turns.isEmpty()) {
                lookAtDirectory(turns.remove(), used, turns);
            }
            for (int c = 2; c <= clusters + 1; c++) {
                if (entry(0, c) != 0 && !used.contains(c)) {
                    throw new Fault(6);
                }
            }
            return 0;
        } catch (Fault f) {
            return f.number;
        }
    }

    private void lookAtTables() {
        for (int t = 0; t < tables; t++) {
            for (int c = 0; c <= clusters + 1; c++) {
                long e = entry(t, c);
                boolean asTold = c == 0 ? e == 268435448 : c == 1 ? e == 268435455
                        : e == 0 || e >= 2 && e <= clusters + 1 || e >= 268435448;
                if (!asTold || get(tableAt(0, c), 4) != get(tableAt(t, c), 4)) {
                    throw new Fault(2);
                }
            }
        }
    }

    private List<Integer> claim(long first, Set<Integer> used) {
        List<Integer> chain = new ArrayList<>();
        long c = first;
        while (c < 268435448 || chain.isEmpty()) {
            if (c < 2 || c > clusters + 1 || entry(0, (int) c) == 0 || !used.add((int) c)) {
                throw new Fault(3);
            }
            chain.add((int) c);
            c = entry(0, (int) c);
        }
        return chain;
    }

    private List<Integer> slotsOf(List<Integer> chain) {
        List<Integer> slots = new ArrayList<>();
        for (int c : chain) {
            int at = clusterAt(c);
            for (int i = 0; i < sectorsOfCluster * 512; i += 32) {
                slots.add(at + i);
            }
        }
        return slots;
    }

    private int clusterAt(int c) {
        return (before + tables * tableSectors + (c - 2) * sectorsOfCluster) * 512;
    }

    private long firstCluster(int at) {
        return get(at + 20, 2) * 65536 + get(at + 26, 2);
    }

    private void lookAtDirectory(int[] turn, Set<Integer> used, ArrayDeque<int[]> turns) {
        boolean isRoot = turn[2] == 1;
        List<Integer> slots = slotsOf(claim(turn[0], used));
        if (!isRoot) {
            want(pointsAt(slots.get(0), ".", turn[0]) && pointsAt(slots.get(1), "..", turn[1]));
            slots = slots.subList(2, slots.size());
        }
        List<Integer> parts = new ArrayList<>();
        Set<String> names = new HashSet<>();
        Set<String> shorts = new HashSet<>();
        int labels = 0;
        for (int at : slots) {
            int mark = disk[at] & 255;
            if (mark == 0) {
                break;
            }
            if (mark == 229) {
                want(parts.isEmpty());
                continue;
            }
            int bits = disk[at + 11] & 255;
            if (bits % 64 == 15) {
                parts.add(at);
                continue;
            }
            boolean label = (bits & 8) != 0;
            boolean folder = (bits & 16) != 0;
            long size = get(at + 28, 4);
            want(bits < 64 && timesFit(at) && shortFits(latin(at, 11), label));
            if (label) {
                labels++;
                want(!folder && isRoot && labels == 1 && parts.isEmpty() && size == 0 && firstCluster(at) == 0);
                continue;
            }
            want(!folder || size == 0);
            String name = parts.isEmpty() ? shown(latin(at, 11)) : partsName(parts, latin(at, 11));
            parts.clear();
            if (!names.add(fold(name)) | !shorts.add(latin(at, 11))) {
                throw new Fault(5);
            }
            if (folder) {
                long first = firstCluster(at);
                turns.add(new int[] {first > clusters + 1 ? -1 : (int) first, isRoot ? 0 : turn[0], 0});
            } else if (size == 0 ? firstCluster(at) != 0
                    : claim(firstCluster(at), used).size() != wanted(size)) {
                throw new Fault(3);
            }
        }
        want(parts.isEmpty());
    }

    private long wanted(long size) {
        long bytes = 512L * sectorsOfCluster;
        return (size + bytes - 1) / bytes;
    }

    private static void want(boolean condition) {
        if (!condition) {
            throw new Fault(4);
        }
    }

    private boolean pointsAt(int at, String points, int cluster) {
        return latin(at, 11).equals((points + " ".repeat(11)).substring(0, 11)) && disk[at + 11] == 16
                && firstCluster(at) == cluster;
    }

    private static boolean shortFits(String eleven, boolean label) {
        String letters = "[" + SHORT.replace("^", "\\^").replace("-", "\\-").replace("&", "\\&") + "]";
        String some = letters.replace("]", " ]");
        return label ? eleven.matches(letters + some + "{10}")
                : eleven.substring(0, 8).matches(letters + "+ *") && eleven.substring(8).matches(letters + "* *");
    }

    static boolean dayFits(long day) {
        try {
            return day >= 0 && day < 65536
                    && LocalDate.of((int) (1980 + day / 512), (int) (day / 32 % 16), (int) (day % 32)) != null;
        } catch (DateTimeException e) {
            return false;
        }
    }

    static boolean timeFits(long time) {
        try {
            return time >= 0
                    && LocalTime.of((int) (time / 2048), (int) (time / 32 % 64), (int) (time % 32 * 2)) != null;
        } catch (DateTimeException e) {
            return false;
        }
    }

    private boolean timesFit(int at) {
        long hundredths = get(at + 13, 1);
        long made = get(at + 16, 2);
        long madeTime = get(at + 14, 2);
        long read = get(at + 18, 2);
        boolean madeFits = made == 0 ? madeTime == 0 && hundredths == 0
                : dayFits(made) && timeFits(madeTime) && hundredths < 200;
        return madeFits && (read == 0 || dayFits(read)) && dayFits(get(at + 24, 2)) && timeFits(get(at + 22, 2));
    }

    private static String shown(String eleven) {
        String base = eleven.substring(0, 8).trim();
        String extension = eleven.substring(8).trim();
        return extension.isEmpty() ? base : base + "." + extension;
    }

    private static int sum(String eleven) {
        int sum = 0;
        for (char c : eleven.toCharArray()) {
            sum = (sum % 2 * 128 + sum / 2 + c) % 256;
        }
        return sum;
    }

    private String partsName(List<Integer> parts, String eleven) {
        StringBuilder all = new StringBuilder();
        int n = parts.size();
        for (int i = 0; i < n; i++) {
            int at = parts.get(n - 1 - i);
            want((disk[at] & 255) == i + 1 + (i == n - 1 ? 64 : 0) && disk[at + 12] == 0 && get(at + 26, 2) == 0
                    && (disk[at + 13] & 255) == sum(eleven));
            for (int place : PLACES) {
                all.append((char) get(at + place, 2));
            }
        }
        int stop = all.indexOf("\0");
        String name = stop < 0 ? all.toString() : all.substring(0, stop);
        String filler = stop < 0 ? "" : all.substring(stop + 1);
        want(filler.chars().allMatch(c -> c == 65535) && nameFits(name) && (name.length() + 12) / 13 == n);
        return name;
    }

    static boolean nameFits(String name) {
        return !name.isEmpty() && name.length() <= 255 && !name.endsWith(" ") && !name.endsWith(".")
                && name.chars().noneMatch(u -> u < 32 || "\"*/:<>?\\|".indexOf(u) >= 0 || u == 127
                        || u >= 55296 && u <= 57343 || u > 65533);
    }

    private static String fold(String name) {
        StringBuilder folded = new StringBuilder();
        for (char c : name.toCharArray()) {
            folded.append(c >= 'a' && c <= 'z' ? (char) (c - 'a' + 'A') : c);
        }
        return folded.toString();
    }

    // ---- the tree

    private void wantSound() {
        if (fault() != 0) {
            throw new IllegalStateException();
        }
    }

    private int hereCluster() {
        return way.isEmpty() ? root : way.get(way.size() - 1);
    }

    private List<Integer> chain(long first) {
        return first == 0 ? new ArrayList<>() : claim(first, new HashSet<>());
    }

    private List<Item> itemsOf(int first) {
        List<Item> items = new ArrayList<>();
        Item item = new Item();
        List<Integer> slots = slotsOf(chain(first));
        for (int i = 0; i < slots.size(); i++) {
            int at = slots.get(i);
            if (disk[at] == 0) {
                break;
            }
            if ((disk[at] & 255) == 229 || disk[at] == '.' || (disk[at + 11] & 63) != 15 && (disk[at + 11] & 8) != 0) {
                continue;
            }
            if (item.slots.isEmpty()) {
                item.firstIndex = i;
            }
            item.slots.add(at);
            if ((disk[at + 11] & 63) != 15) {
                item.shortBytes = latin(at, 11);
                int parts = item.slots.size() - 1;
                item.name = parts == 0 ? shown(item.shortBytes)
                        : partsName(item.slots.subList(0, parts), item.shortBytes);
                items.add(item);
                item = new Item();
            }
        }
        return items;
    }

    private List<Item> here() {
        wantSound();
        return itemsOf(hereCluster());
    }

    private static Item pick(List<Item> items, int k) {
        if (k < 0 || k >= items.size()) {
            throw new IndexOutOfBoundsException();
        }
        return items.get(k);
    }

    private boolean isFolder(Item item) {
        return (disk[item.entry() + 11] & 16) != 0;
    }

    private Item pickFile(int k) {
        Item item = pick(here(), k);
        if (isFolder(item)) {
            throw new IllegalArgumentException();
        }
        return item;
    }

    int items() {
        return here().size();
    }

    int letter(int k, int i) {
        byte[] bytes = pick(here(), k).name.getBytes(StandardCharsets.UTF_8);
        return i < 0 || i >= bytes.length ? -1 : bytes[i] & 255;
    }

    private static long seconds(long day, long time) {
        return LocalDate.of((int) (1980 + day / 512), (int) (day / 32 % 16), (int) (day % 32))
                .atTime((int) (time / 2048), (int) (time / 32 % 64), (int) (time % 32 * 2))
                .toEpochSecond(ZoneOffset.UTC);
    }

    long about(int k, int what) {
        Item item = pick(here(), k);
        int at = item.entry();
        long written = seconds(get(at + 24, 2), get(at + 22, 2));
        long read = get(at + 18, 2);
        long made = get(at + 16, 2);
        switch (what) {
            case 0: return isFolder(item) ? 1 : 0;
            case 1: return get(at + 11, 1) % 2;
            case 2: return read == 0 ? written : seconds(read, 0);
            case 3: return made == 0 ? written : seconds(made, get(at + 14, 2)) + get(at + 13, 1) / 100;
            case 4: return written;
            case 5: return get(at + 28, 4);
            case 6: return item.slots.size() - 1;
            default: throw new IllegalArgumentException();
        }
    }

    int content(int k, int i) {
        Item item = pick(here(), k);
        if (isFolder(item) || i < 0 || i >= get(item.entry() + 28, 4)) {
            return -1;
        }
        return disk[fileAt(item, i)] & 255;
    }

    private int fileAt(Item item, long i) {
        long bytes = 512L * sectorsOfCluster;
        return clusterAt(chain(firstCluster(item.entry())).get((int) (i / bytes))) + (int) (i % bytes);
    }

    int enter(int k) {
        Item item = pick(here(), k);
        if (!isFolder(item)) {
            throw new IllegalArgumentException();
        }
        way.add((int) firstCluster(item.entry()));
        return here().size();
    }

    boolean up() {
        wantSound();
        if (way.isEmpty()) {
            return false;
        }
        way.remove(way.size() - 1);
        return true;
    }

    // ---- changes

    private int takeCluster() {
        int c = freeList().get(0);
        setEntry(c, 268435455);
        Arrays.fill(disk, clusterAt(c), clusterAt(c) + 512 * sectorsOfCluster, (byte) 0);
        return c;
    }

    private static boolean isShown(String name) {
        int point = name.indexOf('.');
        String base = point < 0 ? name : name.substring(0, point);
        String extension = point < 0 ? "A" : name.substring(point + 1);
        return base.length() >= 1 && base.length() <= 8 && extension.length() >= 1 && extension.length() <= 3
                && (base + extension).chars().allMatch(c -> SHORT.indexOf(c) >= 0);
    }

    private static String shortened(String units) {
        StringBuilder out = new StringBuilder();
        for (char c : fold(units).toCharArray()) {
            if (c != ' ' && c != '.') {
                out.append(SHORT.indexOf(c) >= 0 ? c : '_');
            }
        }
        return out.toString();
    }

    private static String first(String text, int n) {
        return text.length() <= n ? text : text.substring(0, n);
    }

    private static String eleven(String base, String extension) {
        return first(base + " ".repeat(8), 8) + first(extension + "   ", 3);
    }

    private static String shortFor(String name, List<Item> items) {
        if (isShown(name)) {
            int point = name.indexOf('.');
            return point < 0 ? eleven(name, "") : eleven(name.substring(0, point), name.substring(point + 1));
        }
        int point = name.lastIndexOf('.');
        String base = shortened(point > 0 ? name.substring(0, point) : name);
        String extension = point > 0 ? shortened(name.substring(point + 1)) : "";
        for (int k = 1;; k++) {
            String digits = Integer.toString(k);
            String wanted = eleven(first(base, 7 - digits.length()) + "~" + digits, extension);
            if (items.stream().noneMatch(i -> i.shortBytes.equals(wanted))) {
                return wanted;
            }
        }
    }

    int make(boolean directory) {
        byte[] bytes = takeTape();
        List<Item> items = here();
        String name = new String(bytes, 0, bytes.length / 2 * 2, StandardCharsets.UTF_16BE);
        // the library replaces lone surrogates, so the bytes themselves are looked at for them
        for (int i = 0; i + 1 < bytes.length; i += 2) {
            if ((bytes[i] & 255) >= 0xD8 && (bytes[i] & 255) <= 0xDF) {
                throw new IllegalArgumentException();
            }
        }
        if (bytes.length % 2 != 0 || !nameFits(name)) {
            throw new IllegalArgumentException();
        }
        String shortBytes = shortFor(name, items);
        for (Item i : items) {
            if (fold(i.name).equals(fold(name)) || isShown(name) && i.shortBytes.equals(shortBytes)) {
                throw new IllegalArgumentException();
            }
        }
        int parts = isShown(name) ? 0 : (name.length() + 12) / 13;
        return put(items, name, shortBytes, parts, directory);
    }

    private int put(List<Item> items, String name, String shortBytes, int parts, boolean directory) {
        List<Integer> slots = slotsOf(chain(hereCluster()));
        int looked = 0;
        while (looked < slots.size() && disk[slots.get(looked)] != 0) {
            looked++;
        }
        int perCluster = sectorsOfCluster * 16;
        int at = 0;
        while (!allFree(slots, at, parts + 1, looked)) {
            at++;
        }
        int added = 0;
        while (at + parts + 1 > slots.size() + added * perCluster) {
            added++;
        }
        if (added + (directory ? 1 : 0) > freeList().size()) {
            throw new UnsupportedOperationException();
        }
        int own = directory ? takeCluster() : 0;
        for (int i = 0; i < added; i++) {
            List<Integer> chain = chain(hereCluster());
            setEntry(chain.get(chain.size() - 1), takeCluster());
        }
        slots = slotsOf(chain(hereCluster()));
        for (int i = at; i <= at + parts; i++) {
            Arrays.fill(disk, slots.get(i), slots.get(i) + 32, (byte) 0);
        }
        String padded = name + (name.length() % 13 == 0 ? "" : "\0") + "\uffff".repeat(13);
        for (int p = parts; p >= 1; p--) {
            int slot = slots.get(at + parts - p);
            set(slot, 1, p == parts ? p + 64 : p);
            set(slot + 11, 1, 15);
            set(slot + 13, 1, sum(shortBytes));
            for (int u = 0; u < 13; u++) {
                set(slot + PLACES[u], 2, padded.charAt((p - 1) * 13 + u));
            }
        }
        writeEntry(slots.get(at + parts), shortBytes, directory ? 48 : 32, own);
        if (at + parts + 1 < slots.size() && at + parts + 1 >= looked) {
            disk[slots.get(at + parts + 1)] = 0;
        }
        if (directory) {
            writeEntry(clusterAt(own), ".          ", 16, own);
            writeEntry(clusterAt(own) + 32, "..         ", 16, way.isEmpty() ? 0 : hereCluster());
        }
        int index = at;
        return (int) items.stream().filter(i -> i.firstIndex < index).count();
    }

    private void writeEntry(int at, String eleven, int bits, int cluster) {
        setLatin(at, eleven);
        set(at + 11, 1, bits);
        set(at + 24, 2, 33);
        set(at + 20, 2, cluster / 65536);
        set(at + 26, 2, cluster % 65536);
    }

    private boolean allFree(List<Integer> slots, int from, int n, int looked) {
        for (int i = from; i < from + n && i < slots.size(); i++) {
            if (i < looked && (disk[slots.get(i)] & 255) != 229) {
                return false;
            }
        }
        return true;
    }

    private int append(Item item, byte[] bytes) {
        int at = item.entry();
        long size = get(at + 28, 4);
        long added = wanted(size + bytes.length) - wanted(size);
        if (added > freeList().size()) {
            throw new UnsupportedOperationException();
        }
        for (int i = 0; i < added; i++) {
            List<Integer> chain = chain(firstCluster(at));
            int c = takeCluster();
            if (chain.isEmpty()) {
                set(at + 20, 2, c / 65536);
                set(at + 26, 2, c % 65536);
            } else {
                setEntry(chain.get(chain.size() - 1), c);
            }
        }
        List<Integer> chain = chain(firstCluster(at));
        int inCluster = 512 * sectorsOfCluster;
        for (int i = 0; i < bytes.length; i++) {
            int to = (int) size + i;
            disk[clusterAt(chain.get(to / inCluster)) + to % inCluster] = bytes[i];
        }
        set(at + 28, 4, size + bytes.length);
        return (int) size + bytes.length;
    }

    int write(int k) {
        byte[] bytes = takeTape();
        return append(pickFile(k), bytes);
    }

    int grow(int k, int n, int seed) {
        Item item = pickFile(k);
        if (n < 0 || n > 400000) {
            throw new IllegalArgumentException();
        }
        byte[] bytes = new byte[n];
        for (int i = 0; i < n; i++) {
            bytes[i] = (byte) (seed + (long) i * i + i / 256);
        }
        return append(item, bytes);
    }

    int cut(int k, int size) {
        Item item = pickFile(k);
        int at = item.entry();
        if (size < 0 || size > get(at + 28, 4)) {
            throw new IllegalArgumentException();
        }
        List<Integer> chain = chain(firstCluster(at));
        int kept = (int) wanted(size);
        for (int c : chain.subList(kept, chain.size())) {
            setEntry(c, 0);
        }
        if (kept == 0) {
            set(at + 20, 2, 0);
            set(at + 26, 2, 0);
        } else if (kept < chain.size()) {
            setEntry(chain.get(kept - 1), 268435455);
        }
        set(at + 28, 4, size);
        return chain.size() - kept;
    }

    void remove(int k) {
        Item item = pick(here(), k);
        int first = (int) firstCluster(item.entry());
        if (isFolder(item) && !itemsOf(first).isEmpty()) {
            throw new IllegalArgumentException();
        }
        for (int c : chain(first)) {
            setEntry(c, 0);
        }
        for (int slot : item.slots) {
            disk[slot] = (byte) 229;
        }
    }

    void stamp(int k, int what, int day, int time) {
        int at = pick(here(), k).entry();
        byte[] kept = Arrays.copyOfRange(disk, at, at + 32);
        boolean inRange = day >= 0 && day < 65536 || what > 2;
        switch (what) {
            case 0:
                inRange &= time >= 0 && time < 65536;
                set(at + 14, 2, time);
                set(at + 16, 2, day);
                break;
            case 1:
                inRange &= time == 0;
                set(at + 18, 2, day);
                break;
            case 2:
                inRange &= time >= 0 && time < 65536;
                set(at + 22, 2, time);
                set(at + 24, 2, day);
                break;
            case 3:
                inRange = time >= 0 && time < 256;
                set(at + 13, 1, time);
                break;
            case 4:
                inRange = time == 0 || time == 1;
                set(at + 11, 1, get(at + 11, 1) / 2 * 2 + time);
                break;
            default:
                inRange = false;
        }
        if (!inRange || !timesFit(at)) {
            System.arraycopy(kept, 0, disk, at, 32);
            throw new IllegalArgumentException();
        }
    }
}
