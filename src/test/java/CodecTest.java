/** Files of collections with gaps of many kinds, byte by byte as the model writes them, and right. */
public final class CodecTest {
    private static final int DRAWN = 300;

    private static long state = 7;

    private CodecTest() {
    }

    public static void main(String[] args) {
        // Gaps of one segment, at the edges of how many gaps of how many bits a word holds.
        gaps("thirty of two bits, then one of three", 2, 0, 28, 1, 7);
        gaps("thirty and one of two bits", 2, 0, 29, 3);
        gaps("thirty and one of one bit", 3, 0, 29, 1);
        gaps("twenty of three bits, then one of four", 4, 0, 18, 1, 8);
        gaps("twenty and one of three bits", 4, 0, 19, 1);
        gaps("fifteen of four bits, then one of five", 8, 0, 13, 1, 16);
        gaps("fifteen and one of four bits", 8, 0, 14, 1);
        gaps("twelve of five bits, then one", 16, 0, 11, 1);
        gaps("one of six bits, and others", 32, 0, 5, 1, 0);
        gaps("a last one", 39);
        gaps("two", 0, 1, 38);
        gaps("all", 0, 40);
        for (int i = 0; i < DRAWN; i++) {
            drawn(i);
        }
        Checks.end("CodecTest");
    }

    private static int below(int bound) {
        state = state * 6364136223846793005L + 1442695040888963407L;
        return (int) ((state >>> 33) % bound);
    }

    /** Gaps, where a 0 with a number behind it stands for as many 0s. */
    private static void gaps(String what, int... told) {
        String[] texts = new String[40];
        java.util.Arrays.fill(texts, "b");
        int d = -1;
        for (int i = 0; i < told.length; i++) {
            boolean many = told[i] == 0 && i + 1 < told.length;
            int times = many ? told[++i] : 1;
            int gap = many ? 0 : told[i];
            for (int j = 0; j < times && d + gap + 1 < 40; j++) {
                d += gap + 1;
                texts[d] = "a";
            }
        }
        files(what, texts);
    }

    /** One word a document, so that a term has one segment; with each third also documents of several lengths. */
    private static void drawn(int i) {
        String[] texts = new String[1 + below(40)];
        int rare = 1 + below(12);
        for (int d = 0; d < texts.length; d++) {
            String word = below(rare) == 0 ? "a" : below(3) == 0 ? "c" : "b";
            texts[d] = i % 3 == 0 ? word + " " + "abcdefg".substring(below(8)).replace("", " ") : word;
        }
        files("drawn " + i, texts);
    }

    private static void files(String what, String... texts) {
        ImpactShelf x = Checks.shelfOf(texts);
        Model m = new Model();
        for (String text : texts) {
            for (int i = 0; i < text.length(); i++) {
                m.feed(1, text.charAt(i));
            }
            m.add();
        }
        for (int codec = 0; codec < 3; codec++) {
            int bits = 2 + below(7);
            int size = m.build(bits, codec);
            Checks.same(what + ": size in codec " + codec, x.build(bits, codec), size);
            for (int k = 0; k < size; k += 8) {
                Checks.same(what + ": bytes from " + k + " in codec " + codec, x.file(k), m.file(k));
            }
            Checks.same(what + ": is right in codec " + codec, x.look(3), 1);
            Checks.same(what + ": and so says the model", m.look(3), 1);
        }
    }
}
