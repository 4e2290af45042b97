/** What the tests share: counting wrong answers, putting bytes and names on the tape, reading names back. */
final class Kit {
    static final int NOTHING = 0;
    static final int STATE = 1;
    static final int INDEX = 2;
    static final int ARGUMENT = 3;
    static final int ROOM = 4;
    static final int OTHER = 5;

    private static int wrong = 0;
    private static String sentence = "";

    /** A call that may throw. */
    interface Call {
        void run();
    }

    /** A test of words of the document, which are printed with each answer that is not as due. */
    static void says(String words, Call test) {
        sentence = words;
        try {
            test.run();
        } catch (RuntimeException e) {
            tell("threw " + e);
        }
        sentence = "";
    }

    private static void tell(String what) {
        wrong++;
        System.out.println((sentence.isEmpty() ? "" : "[" + sentence + "] ") + what);
    }

    static void due(String what, long got, long want) {
        if (got != want) {
            tell(what + ": got " + got + ", due is " + want);
        }
    }

    static void due(String what, String got, String want) {
        if (!got.equals(want)) {
            tell(what + ": got \"" + got + "\", due is \"" + want + "\"");
        }
    }

    static void holds(String what, boolean condition) {
        if (!condition) {
            tell(what + ": does not hold");
        }
    }

    static void end() {
        if (wrong != 0) {
            System.out.println(wrong + " answers are not as due");
            System.exit(1);
        }
    }

    /** Which exception a call throws; only the very class that the document names counts. */
    static int thrown(Call call) {
        try {
            call.run();
            return NOTHING;
        } catch (RuntimeException e) {
            return kindOf(e);
        }
    }

    static int kindOf(RuntimeException e) {
        Class<?> kind = e.getClass();
        return kind == IllegalStateException.class ? STATE
                : kind == IndexOutOfBoundsException.class ? INDEX
                : kind == IllegalArgumentException.class ? ARGUMENT
                : kind == UnsupportedOperationException.class ? ROOM : OTHER;
    }

    static void throwsDue(String what, Call call, int want) {
        due(what + " throws", thrown(call), want);
    }

    /** Puts bytes on the tape behind those that are there. */
    static void tape(Run x, byte[] bytes) {
        for (int from = 0; from < bytes.length; from += 20) {
            int n = Math.min(20, bytes.length - from);
            int[] words = new int[5];
            for (int i = 0; i < n; i++) {
                words[i / 4] |= (bytes[from + i] & 255) << (24 - 8 * (i % 4));
            }
            x.feed(words[0], words[1], words[2], words[3], words[4]);
            x.end(n);
        }
    }

    static void tape(Run x, String latin) {
        byte[] bytes = new byte[latin.length()];
        for (int i = 0; i < bytes.length; i++) {
            bytes[i] = (byte) latin.charAt(i);
        }
        tape(x, bytes);
    }

    static byte[] unitBytes(String name) {
        byte[] bytes = new byte[2 * name.length()];
        for (int i = 0; i < name.length(); i++) {
            bytes[2 * i] = (byte) (name.charAt(i) >> 8);
            bytes[2 * i + 1] = (byte) name.charAt(i);
        }
        return bytes;
    }

    static int tapeLength(Run x) {
        return x.end(0);
    }

    static int makeFile(Run x, String name) {
        tape(x, unitBytes(name));
        return x.make(false);
    }

    static int makeDirectory(Run x, String name) {
        tape(x, unitBytes(name));
        return x.make(true);
    }

    static int makeThrows(Run x, String name, boolean directory) {
        tape(x, unitBytes(name));
        return thrown(() -> x.make(directory));
    }

    static int writeText(Run x, int k, String text) {
        tape(x, text);
        return x.write(k);
    }

    static String nameOf(Run x, int k) {
        java.io.ByteArrayOutputStream bytes = new java.io.ByteArrayOutputStream();
        for (int i = 0; x.letter(k, i) != TableVolumes.NONE; i++) {
            bytes.write(x.letter(k, i));
        }
        return new String(bytes.toByteArray(), java.nio.charset.StandardCharsets.UTF_8);
    }

    /** That the volume is looked through anew, byte by byte, and has no fault. */
    static void sound(Run x) {
        Run y = x.fork();
        // before the tables, where nothing counts
        y.poke(7, 0, 0);
        due("fault", y.fault(), 0);
    }

    /** A number on the disk, lowest byte first. */
    static long number(Run x, int sector, int at, int n) {
        long value = 0;
        for (int i = n - 1; i >= 0; i--) {
            value = value << 8 | x.byteAt(sector, at + i);
        }
        return value;
    }

    static void poke(Run x, int sector, int at, int n, long value) {
        for (int i = 0; i < n; i++) {
            holds("there is byte " + (at + i) + " of sector " + sector, x.poke(sector, at + i, (int) (value >> (8 * i))));
        }
    }

    /** The fault of a volume that is the same but for a number in n bytes. */
    static int faultWith(Run x, int sector, int at, int n, long value) {
        Run y = x.fork();
        poke(y, sector, at, n, value);
        return y.fault();
    }

    /** That the volume has this fault with each of these numbers in n bytes. */
    static void faults(Run x, int sector, int at, int n, int want, long... values) {
        for (long value : values) {
            due("fault with " + value + " at " + at + " (" + n + ") of sector " + sector,
                    faultWith(x, sector, at, n, value), want);
        }
    }

    /** An entry of the tables of a volume with two, of one sector each, behind 8 sectors. */
    static void link(Run x, int cluster, long value) {
        poke(x, 8, 4 * cluster, 4, value);
        poke(x, 9, 4 * cluster, 4, value);
    }

    /** That the volume, one as link wants, has this fault with each of these numbers as an entry of both tables. */
    static void linkFaults(Run x, int cluster, int want, long... values) {
        for (long value : values) {
            Run y = x.fork();
            link(y, cluster, value);
            due("fault with entry " + cluster + " = " + value, y.fault(), want);
        }
    }

    /** Bytes of a slot of a directory's cluster that begins at a sector, as characters. */
    static String text(Run x, int sector, int at, int n) {
        StringBuilder text = new StringBuilder();
        for (int i = 0; i < n; i++) {
            text.append((char) x.byteAt(sector + (at + i) / 512, (at + i) % 512));
        }
        return text.toString();
    }

    /** All bytes that byteAt shows, NONE where it shows none. */
    static int[] image(Run x, int sectors) {
        int[] image = new int[sectors * 512];
        for (int i = 0; i < image.length; i++) {
            image[i] = x.byteAt(i / 512, i % 512);
        }
        return image;
    }

    private Kit() {
    }
}
