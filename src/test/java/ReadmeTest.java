/** The example of README.md, with the answers that it tells. */
public final class ReadmeTest {
    public static void main(String[] args) {
        TableVolumes x = new TableVolumes(300);
        x.feed(0x44454D4F, 0, 0, 0, 0);
        Kit.due("end of the label", x.end(4), 4);
        Kit.due("format", x.format(2, 8, 2, 305419896), 144);
        x.feed(0x00740065, 0x00780074, 0, 0, 0);
        Kit.due("end of the name", x.end(8), 8);
        int k = x.make(false);
        Kit.due("make", k, 0);
        x.feed(0x48656C6C, 0x6F000000, 0, 0, 0);
        Kit.due("end of the bytes", x.end(5), 5);
        Kit.due("write", x.write(k), 5);
        Kit.due("letter", x.letter(k, 3), 't');
        Kit.due("letter behind the end", x.letter(k, 4), TableVolumes.NONE);
        Kit.due("content", x.content(k, 1), 'e');
        Kit.due("parts", x.about(k, 6), 1);
        Kit.due("free", x.free(), 142);
        Kit.due("cut", x.cut(k, 0), 1);
        Kit.due("fault", x.fault(), 0);
        // slot 0 of the root is the label's, slot 1 the part's; clusters begin at sector 12
        StringBuilder shortName = new StringBuilder();
        for (int i = 0; i < 11; i++) {
            shortName.append((char) x.byteAt(12, 64 + i));
        }
        Kit.due("short name", shortName.toString(), "TEXT~1     ");
        Kit.end();
    }

    private ReadmeTest() {
    }
}
