/** The boundary cases that the document names of impacts, files and what is right (promises 7 to 11). */
public final class FileBoundaryTest {
    /** The head of a file of codec 0 with two bits, one document and one term, up to how many letters that has. */
    private static final String ONE = "73,109,2,0,1,1";
    /** The same of 40 documents. */
    private static final String FORTY = "73,109,2,0,40,1";

    private FileBoundaryTest() {
    }

    public static void main(String[] args) {
        buildOfNone();
        buildOfNoDocument();
        impactsOfOneScore();
        leastAndGreatestImpacts();
        impactsAtTheHalf();
        sevens();
        wordsOfOneGap();
        wordsThatAreFull();
        wordsOfAllThatAreLeft();
        evenBits();
        evenBitsUpToAWholeByte();
        sumModulo65521();
        sumOfALargeFile();
        fileAtItsEnds();
        spoilAtItsEnds();
        spoilOfLowestBits();
        cutAtItsEnds();
        mendOfFew();
        rightHeads();
        rightTerms();
        rightSegments();
        rightDocuments();
        rightPostings();
        rightSevens();
        rightWords();
        rightEvenBits();
        rightEnds();
        Checks.end("FileBoundaryTest");
    }

    private static String zeros(int many) {
        return ",0".repeat(many);
    }

    private static void buildOfNone() {
        for (int bits : new int[] {1, 9, 0, -1, 258, Integer.MAX_VALUE, Integer.MIN_VALUE}) {
            Twin.refuses("7: bits " + bits, Checks.ARGUMENT, Shelves::busyWithTape, x -> x.build(bits, 0));
            Twin.refuses("7: bits " + bits + " is told first", Checks.ARGUMENT, ImpactShelf::new, x -> x.build(bits, 0));
        }
        for (int codec : new int[] {-1, 3, 256, Integer.MAX_VALUE, Integer.MIN_VALUE}) {
            Twin.refuses("7: codec " + codec, Checks.ARGUMENT, Shelves::busyWithTape, x -> x.build(2, codec));
            Twin.refuses("7: codec " + codec + " is told first", Checks.ARGUMENT, ImpactShelf::new,
                x -> x.build(8, codec));
        }
        for (int bits = 2; bits <= 8; bits++) {
            for (int codec = 0; codec <= 2; codec++) {
                ImpactShelf x = Shelves.busy();
                Checks.same("7: bytes of " + bits + ", " + codec, x.build(bits, codec), x.look(2));
                Checks.same("7: right of " + bits + ", " + codec, x.look(3), 1);
                Checks.same("7: bits and codec " + bits + ", " + codec, x.file(2) & 65535, bits + 256 * codec);
            }
        }
    }

    private static ImpactShelf clearedWithAFile() {
        ImpactShelf x = Shelves.busyWithTape();
        x.clear();
        return x;
    }

    private static void buildOfNoDocument() {
        Twin.refuses("7: no document ever", Checks.STATE, ImpactShelf::new, x -> x.build(2, 0));
        Twin.refuses("7: no document left", Checks.STATE, FileBoundaryTest::clearedWithAFile, x -> x.build(8, 2));
        Checks.same("7: one document", Checks.shelfOf("a").build(2, 0), 16);
    }

    /** The impact of a term for a document of the collection. */
    private static int impact(ImpactShelf x, int bits, String term, int document) {
        x.build(bits, 0);
        x.publish();
        x.close(0);
        x.open(0);
        Checks.query(x, term, 0, 40, 600, Shelves.EVER);
        return x.sum(document);
    }

    private static void impactsOfOneScore() {
        int[] q = {3, 7, 15, 31, 63, 127, 255};
        for (int bits = 2; bits <= 8; bits++) {
            int due = q[bits - 2];
            Checks.same("impact: one posting, bits " + bits, impact(Checks.shelfOf("a"), bits, "a", 0), due);
            Checks.same("impact: scores of 0, bits " + bits, impact(Shelves.documents(40), bits, "a", 39), due);
            Checks.same("impact: scores above 0, bits " + bits, impact(Checks.shelfOf("a", "b"), bits, "b", 1), due);
        }
    }

    private static void leastAndGreatestImpacts() {
        int[] q = {3, 7, 15, 31, 63, 127, 255};
        for (int bits = 2; bits <= 8; bits++) {
            Checks.same("impact: the least, bits " + bits, impact(Shelves.sixDocuments(), bits, "oat", 2), 1);
            Checks.same("impact: the greatest, bits " + bits, impact(Shelves.sixDocuments(), bits, "bean", 2), q[bits - 2]);
            Checks.same("impact: the first posting is the least, bits " + bits,
                impact(Checks.shelfOf("a z z z z z", "a", "z"), bits, "a", 0), 1);
            Checks.same("impact: 0 is the least, bits " + bits, impact(Checks.shelfOf("a b", "a"), bits, "a", 0), 1);
        }
    }

    // Reckoned apart: of these postings 0.4998 and 0.5003 are over what is whole.
    private static void impactsAtTheHalf() {
        Checks.same("impact: just below the half", impact(Checks.shelfOf("a b", "a c", "b b c"), 2, "a", 0), 1);
        Checks.same("impact: just above it", impact(Checks.shelfOf("a a a b", "a a a", "c", "a a b b b"), 2, "b", 0), 2);
    }

    /**
     * How the gaps of a term are coded: the bytes of its only segment, behind how many documents it has. A gap of
     * 0 with a number behind it stands for as many 0s.
     */
    private static String coded(int codec, int... told) {
        boolean[] has = new boolean[40];
        int d = -1;
        for (int i = 0; i < told.length; i++) {
            boolean many = told[i] == 0 && i + 1 < told.length;
            int times = many ? told[++i] : 1;
            for (int j = 0; j < times; j++) {
                d += (many ? 0 : told[i]) + 1;
                has[d] = true;
            }
        }
        ImpactShelf x = new ImpactShelf();
        for (int i = 0; i < 40; i++) {
            Checks.add(x, has[i] ? "a" : "b");
        }
        x.build(2, codec);
        Checks.same("file: it is right", x.look(3), 1);
        // Behind the head: the term a, one segment, its impact, how many documents, their gaps; then the term b.
        String all = Checks.fileOf(x);
        String head = "73,109,2," + codec + ",40,2,1,97,1,";
        Checks.isTrue("file: its head", all.startsWith(head));
        return all.substring(head.length(), all.indexOf(",1,98,1,")).replaceAll("^[13],[0-9]+,", "");
    }

    private static void sevens() {
        Checks.same("codec 0: a gap of 0", coded(0, 0), "128");
        Checks.same("codec 0: a gap of 1", coded(0, 1), "129");
        Checks.same("codec 0: a gap of 39", coded(0, 39), "167");
        Checks.same("codec 0: none between, and 37", coded(0, 0, 2, 37), "128,128,165");
    }

    /** One gap alone: the way with just enough bits, and the gap above the way. */
    private static void wordsOfOneGap() {
        int[][] due = {{0, 0}, {1, 0}, {2, 1}, {3, 1}, {4, 2}, {7, 2}, {8, 3}, {15, 3}, {16, 4}, {31, 4}, {32, 5}, {39, 5}};
        for (int[] pair : due) {
            int word = pair[1] + 16 * pair[0];
            Checks.same("codec 1: a gap of " + pair[0], coded(1, pair[0]), word % 256 + "," + word / 256 + zeros(6));
        }
    }

    // The last gap that a word holds reaches its highest bit, and one gap more begins another word.
    private static void wordsThatAreFull() {
        Checks.same("codec 1: 30 of 2 bits", coded(1, 0, 29, 3), "1" + zeros(6) + ",192");
        Checks.same("codec 1: 31, the last of 2 bits", coded(1, 0, 30, 3), "1" + zeros(7) + ",49" + zeros(7));
        Checks.same("codec 1: 31, the first of 2 bits", coded(1, 2, 0, 30), "33" + zeros(7) + ",0" + zeros(7));
        Checks.same("codec 1: 20 of 3 bits", coded(1, 0, 19, 7), "2" + zeros(6) + ",224");
        Checks.same("codec 1: 21, the last of 3 bits", coded(1, 0, 20, 7), "2" + zeros(7) + ",114" + zeros(7));
        Checks.same("codec 1: 21, the first of 3 bits", coded(1, 4, 0, 20), "66" + zeros(7) + ",0" + zeros(7));
        Checks.same("codec 1: 15 of 4 bits", coded(1, 0, 14, 15), "3" + zeros(6) + ",240");
        Checks.same("codec 1: 16, the last of 4 bits", coded(1, 0, 15, 15), "3" + zeros(7) + ",243" + zeros(7));
        Checks.same("codec 1: 16, the first of 4 bits", coded(1, 8, 0, 15), "131" + zeros(7) + ",0" + zeros(7));
        Checks.same("codec 1: 12 of 5 bits", coded(1, 0, 11, 28), "4" + zeros(6) + ",224");
        Checks.same("codec 1: 13, the last of 5 bits", coded(1, 0, 12, 27), "4" + zeros(7) + ",180,1" + zeros(6));
        Checks.same("codec 1: 13, the first of 5 bits", coded(1, 16, 0, 12), "4,1" + zeros(6) + ",0" + zeros(7));
    }

    private static void wordsOfAllThatAreLeft() {
        Checks.same("codec 1: 39 of 1 bit, the last", coded(1, 0, 38, 1), "0,0,0,0,0,4,0,0");
        Checks.same("codec 1: 39 of 1 bit, the first", coded(1, 1, 0, 38), "16" + zeros(7));
        Checks.same("codec 1: 29 of 2 bits", coded(1, 0, 28, 3), "1" + zeros(6) + ",48");
        Checks.same("codec 1: 19 of 3 bits", coded(1, 0, 18, 7), "2" + zeros(6) + ",28");
        Checks.same("codec 1: 14 of 4 bits", coded(1, 0, 13, 15), "3" + zeros(6) + ",15");
        Checks.same("codec 1: 11 of 5 bits", coded(1, 0, 10, 28), "4" + zeros(6) + ",7");
        Checks.same("codec 1: 8 of 6 bits, the last", coded(1, 0, 7, 32), "5,0,0,0,0,0,8,0");
        Checks.same("codec 1: 8 of 6 bits, the first", coded(1, 32, 0, 7), "5,2" + zeros(6));
        allForty(1, zeros(8));
    }

    /** All of 40 documents have the term: what is coded, a comma ahead. */
    private static void allForty(int codec, String due) {
        ImpactShelf x = Shelves.documents(40);
        x.build(2, codec);
        Checks.same("codec " + codec + ": all 40 documents", Checks.fileOf(x),
            Checks.withSum("73,109,2," + codec + ",40,1,1,97,1,3,40" + due));
    }

    private static void evenBits() {
        Checks.same("codec 2: 0 for a gap of 0", coded(2, 0), "0");
        Checks.same("codec 2: 0 for 39 gaps of 0", coded(2, 0, 39), "0");
        allForty(2, ",0");
        allForty(0, ",128".repeat(40));
        int[][] due = {{1, 1}, {2, 2}, {3, 2}, {4, 3}, {7, 3}, {8, 4}, {15, 4}, {16, 5}, {31, 5}, {32, 6}, {39, 6}};
        for (int[] pair : due) {
            Checks.same("codec 2: a gap of " + pair[0], coded(2, pair[0]), pair[1] + "," + pair[0]);
        }
    }

    private static void evenBitsUpToAWholeByte() {
        Checks.same("codec 2: 7 of 1 bit", coded(2, 0, 6, 1), "1,64");
        Checks.same("codec 2: 8 of 1 bit, the first", coded(2, 1, 0, 7), "1,1");
        Checks.same("codec 2: 8 of 1 bit, the last", coded(2, 0, 7, 1), "1,128");
        Checks.same("codec 2: 9 of 1 bit, the first", coded(2, 1, 0, 8), "1,1,0");
        Checks.same("codec 2: 9 of 1 bit, the last", coded(2, 0, 8, 1), "1,0,1");
        Checks.same("codec 2: 39 of 1 bit", coded(2, 0, 38, 1), "1,0,0,0,0,64");
        Checks.same("codec 2: 4 of 2 bits", coded(2, 0, 3, 3), "2,192");
        Checks.same("codec 2: 5 of 2 bits", coded(2, 0, 4, 3), "2,0,3");
        Checks.same("codec 2: 3 of 3 bits, over a byte's end", coded(2, 4, 0, 1, 7), "3,196,1");
        Checks.same("codec 2: 8 of 3 bits", coded(2, 0, 7, 7), "3,0,0,224");
        Checks.same("codec 2: 2 of 4 bits", coded(2, 0, 1, 15), "4,240");
        Checks.same("codec 2: 2 of 5 bits", coded(2, 0, 1, 16), "5,0,2");
        Checks.same("codec 2: 2 of 6 bits", coded(2, 0, 1, 38), "6,128,9");
        Checks.same("codec 2: 4 of 6 bits", coded(2, 0, 3, 36), "6,0,0,144");
        Checks.same("codec 2: 5 of 6 bits", coded(2, 0, 4, 35), "6,0,0,0,35");
    }

    private static void sum(String what, String bytes, int u, int v) {
        ImpactShelf x = Shelves.ofFile(bytes);
        long due = u | (long) v << 16;
        Checks.same("sum: " + what, x.file(x.look(2) - 4), due);
    }

    private static void sumModulo65521() {
        String many = "255,".repeat(256);
        // Behind 256 bytes of 255 v is 256 + 255 * (256 * 257 / 2), modulo 65521: 2048; then it grows by u.
        sum("u 65520", many + "239", 65520, 2047);
        sum("u 65521 is 0", many + "240", 0, 2048);
        sum("u 65522 is 1", many + "241", 1, 2049);
        sum("v 65520", "239" + zeros(271) + ",0", 240, 65520);
        sum("v 65521 is 0", "239" + zeros(271) + ",1", 241, 0);
        sum("v 65522 is 1", "239" + zeros(271) + ",2", 242, 1);
    }

    /** 24 terms without the one that bears the document's number, and one of them so often that no length is another's. */
    private static String manyWords(int document) {
        StringBuilder all = new StringBuilder();
        for (int t = 0; t < 24; t++) {
            int times = t == document ? 0 : t == (document + 1) % 24 ? 1 + 2 * document : 1;
            all.append(((char) ('a' + t) + " ").repeat(times));
        }
        return all.toString();
    }

    /** 600 postings, each a segment by itself, each with a word of its own. */
    private static void sumOfALargeFile() {
        ImpactShelf x = new ImpactShelf();
        Model m = new Model();
        for (int d = 0; d < 26; d++) {
            String text = manyWords(d);
            text.chars().forEach(letter -> m.feed(1, letter));
            m.add();
            Checks.add(x, text);
        }
        Checks.same("sum: 600 postings", x.count(2), 600);
        int size = x.build(8, 1);
        Checks.same("sum: of 6 + 24 * 3 + 600 * 10 bytes, and itself", size, 6 + 24 * 3 + 600 * 10 + 4);
        Checks.same("sum: the same file", m.build(8, 1), size);
        for (int k = 0; k < size - 8; k += 72) {
            Checks.same("sum: bytes from " + k, x.file(k), m.file(k));
        }
        Checks.same("sum: the last eight bytes", x.file(size - 8), m.file(size - 8));
        Checks.same("sum: right", x.look(3), 1);
        Checks.same("sum: published", x.publish(), 1);
        x.open(0);
        Checks.same("sum: its segments", x.index(0, 3), 600);
        Checks.same("sum: its postings", x.index(0, 2), 600);
        Checks.same("sum: a query of eight terms", Checks.query(x, "a b c d e f g h", 0, 40, 600, Shelves.EVER), 26);
        Checks.same("sum: its plan", x.last(1), 200);
    }

    private static ImpactShelf fig() {
        ImpactShelf x = Checks.shelfOf("fig");
        x.build(8, 0);
        return x;
    }

    private static ImpactShelf cutToNothing() {
        ImpactShelf x = Shelves.busyWithTape();
        x.cut(0);
        return x;
    }

    private static void fileAtItsEnds() {
        ImpactShelf x = fig();
        for (int k = 14; k < 18; k++) {
            x.spoil(k, 240 + k - 14);
        }
        Checks.same("8: the first eight", x.file(0), 0x6603_0101_0008_6D49L);
        Checks.same("8: the last eight", x.file(10), 0xF3F2_F1F0_8001_FF01L);
        Checks.same("8: one behind the end", x.file(11), 0x00F3_F2F1_F080_01FFL);
        Checks.same("8: seven behind the end", x.file(17), 0xF3L);
        int size = Shelves.busyWithTape().look(2);
        for (int k : new int[] {-1, size, size + 1, size + 7, Integer.MAX_VALUE, Integer.MIN_VALUE}) {
            Twin.refuses("8: no byte " + k, Checks.NONE, Shelves::busyWithTape, y -> y.file(k));
        }
        for (int k : new int[] {-8, -1, 0, 1}) {
            Twin.refuses("8: no file, byte " + k, Checks.NONE, ImpactShelf::new, y -> y.file(k));
            Twin.refuses("8: a file of nothing, byte " + k, Checks.NONE, FileBoundaryTest::cutToNothing, y -> y.file(k));
        }
        Twin.answers("8: it is looked at alone", 0x49L, () -> cutTo(1), y -> y.file(0));
    }

    private static ImpactShelf cutTo(int n) {
        ImpactShelf x = fig();
        x.cut(n);
        return x;
    }

    private static void spoilAtItsEnds() {
        ImpactShelf x = fig();
        Checks.same("9: the first", x.spoil(0, 1), 73);
        Checks.same("9: the last", x.spoil(17, 1) & 255, fig().file(17));
        Checks.same("9: they are other ones", x.file(0) & 255, 1);
        Checks.same("9: both", x.file(17), 1);
        int size = Shelves.busyWithTape().look(2);
        for (int k : new int[] {-1, size, size + 1, Integer.MAX_VALUE, Integer.MIN_VALUE}) {
            Twin.refuses("9: no byte " + k, Checks.NONE, Shelves::busyWithTape, y -> y.spoil(k, 7));
        }
        for (int k : new int[] {-1, 0}) {
            Twin.refuses("9: no file, byte " + k, Checks.NONE, ImpactShelf::new, y -> y.spoil(k, 7));
            Twin.refuses("9: a file of nothing, byte " + k, Checks.NONE, FileBoundaryTest::cutToNothing,
                y -> y.spoil(k, 7));
        }
        Twin.refuses("9: what was cut", Checks.NONE, () -> cutTo(9), y -> y.spoil(9, 7));
        Checks.same("9: the one ahead of it", cutTo(9).spoil(8, 7), 'i');
    }

    private static void spoilOfLowestBits() {
        int[][] due = {{0, 0}, {255, 255}, {256, 0}, {257, 1}, {-1, 255}, {-256, 0}, {-257, 255}, {128, 128}, {127, 127},
            {Integer.MAX_VALUE, 255}, {Integer.MIN_VALUE, 0}};
        ImpactShelf x = fig();
        for (int[] pair : due) {
            x.spoil(3, pair[0]);
            Checks.same("9: " + pair[0] + " between 8 and 1", x.file(2) & 0xFFFFFFL, 0x010008L | pair[1] << 8);
            Checks.same("9: " + pair[0] + " is what it was", x.spoil(3, 0), pair[1]);
        }
        Checks.same("9: all as before", x.look(3), 1);
    }

    private static void cutAtItsEnds() {
        int size = Shelves.busyWithTape().look(2);
        Twin.answers("10: all of them", true, Shelves::busyWithTape, x -> x.cut(size));
        for (int n : new int[] {size + 1, Integer.MAX_VALUE, -1, Integer.MIN_VALUE}) {
            Twin.answers("10: n " + n, false, Shelves::busyWithTape, x -> x.cut(n));
        }
        Twin.answers("10: 0 of nothing", true, ImpactShelf::new, x -> x.cut(0));
        Twin.answers("10: 1 of nothing", false, ImpactShelf::new, x -> x.cut(1));
        Twin.answers("10: -1 of nothing", false, ImpactShelf::new, x -> x.cut(-1));
        Twin.answers("10: 0 once more", true, FileBoundaryTest::cutToNothing, x -> x.cut(0));
        Twin.answers("10: 1 once cut to nothing", false, FileBoundaryTest::cutToNothing, x -> x.cut(1));
        Twin.answers("10: what was cut is gone", false, () -> cutTo(9), x -> x.cut(10));
        ImpactShelf x = fig();
        Checks.isTrue("10: one less", x.cut(17));
        Checks.same("10: its bytes", x.look(2), 17);
        Checks.isTrue("10: one", x.cut(1));
        Checks.same("10: it is the first", Checks.fileOf(x), "73");
        Checks.isTrue("10: none", x.cut(0));
        Checks.same("10: no bytes", x.look(2), 0);
        Checks.same("10: a new file", x.build(8, 0), 18);
        Checks.same("10: is whole", Checks.fileOf(x), Checks.fileOf(fig()));
    }

    private static void mendOfFew() {
        Twin.answers("11: no file", false, ImpactShelf::new, ImpactShelf::mend);
        for (int n = 0; n < 4; n++) {
            int few = n;
            Twin.answers("11: " + n + " bytes", false, () -> cutTo(few), ImpactShelf::mend);
        }
        ImpactShelf four = cutTo(4);
        Checks.isTrue("11: four", four.mend());
        Checks.same("11: the sum of none", Checks.fileOf(four), "1,0,0,0");
        ImpactShelf five = cutTo(5);
        Checks.isTrue("11: five", five.mend());
        Checks.same("11: the sum of one", Checks.fileOf(five), "73,74,0,74,0");
        Twin.answers("11: a sum that is so already", true, Shelves::busyWithTape, ImpactShelf::mend);
    }

    private static void right(String what, String bytes) {
        ImpactShelf x = Shelves.ofFile(bytes);
        Checks.same("right: " + what, x.look(3), 1);
        Checks.same("right: " + what + ", published", x.publish(), 1);
        x.open(0);
        Checks.same("right: " + what + ", its N", x.index(0, 0), Integer.parseInt(bytes.split(",")[4]));
        Checks.same("right: " + what + ", its terms", x.index(0, 1), Integer.parseInt(bytes.split(",")[5]));
    }

    private static void wrong(String what, String bytes) {
        Checks.same("wrong: " + what, Shelves.ofFile(bytes).look(3), 0);
        Twin.refuses("wrong: " + what + ", published", Checks.ARGUMENT, () -> Shelves.ofFile(bytes), ImpactShelf::publish);
    }

    private static void rightHeads() {
        right("N 1, one term, one segment", ONE + ",1,97,1,3,1,128");
        wrong("another byte 0", "72,109,2,0,1,1,1,97,1,3,1,128");
        wrong("another byte 1", "73,110,2,0,1,1,1,97,1,3,1,128");
        wrong("1 bit", "73,109,1,0,1,1,1,97,1,1,1,128");
        wrong("no bits", "73,109,0,0,1,1,1,97,1,1,1,128");
        right("8 bits", "73,109,8,0,1,1,1,97,1,255,1,128");
        wrong("9 bits", "73,109,9,0,1,1,1,97,1,255,1,128");
        wrong("34 bits", "73,109,34,0,1,1,1,97,1,3,1,128");
        for (int codec : new int[] {3, 4, 7, 128, 254, 255}) {
            // As codec 0, 1 and 2 would tell a gap of 0.
            wrong("codec " + codec + ", a byte of 128", "73,109,2," + codec + ",1,1,1,97,1,3,1,128");
            wrong("codec " + codec + ", a word", "73,109,2," + codec + ",1,1,1,97,1,3,1" + zeros(8));
            wrong("codec " + codec + ", a byte of 0", "73,109,2," + codec + ",1,1,1,97,1,3,1,0");
        }
        wrong("N 0", "73,109,2,0,0,1,1,97,1,3,1,128");
        right("N 40 of one document", FORTY + ",1,97,1,3,1,128");
        wrong("N 41", "73,109,2,0,41,1,1,97,1,3,1,128");
        wrong("N 255", "73,109,2,0,255,1,1,97,1,3,1,128");
        wrong("no terms", "73,109,2,0,1,0");
        wrong("a term more than told", ONE + ",1,97,1,3,1,128,1,98,1,3,1,128");
        wrong("a term less than told", "73,109,2,0,1,2,1,97,1,3,1,128");
        Checks.same("right: 64 terms", manyTerms(63), 64);
        Checks.same("wrong: 65 terms", manyTerms(64), 0);
    }

    /** A file of as many terms, whose last one is made two: how many are published, 0 if it is not right. */
    private static int manyTerms(int many) {
        ImpactShelf x = Checks.shelfOf(Shelves.twoLetterWords(0, many - 1) + "zzzzzzzz");
        int place = x.build(2, 0) - 4 - 13;
        int[] two = {1, 'y', 1, 3, 1, 128, 2, 'y', 'y', 1, 3, 1, 128};
        for (int i = 0; i < two.length; i++) {
            x.spoil(place + i, two[i]);
        }
        x.spoil(5, many + 1);
        x.mend();
        if (x.look(3) == 0) {
            Checks.refuses("wrong: too many terms, published", Checks.ARGUMENT, x::publish);
            return 0;
        }
        x.publish();
        x.open(0);
        return x.index(0, 1);
    }

    private static void rightTerms() {
        String a = ",97".repeat(7);
        String rest = ",1,3,1,128";
        wrong("no letters", ONE + ",0" + rest);
        right("1 letter", ONE + ",1,122" + rest);
        right("8 letters", ONE + ",8,122" + a + rest);
        wrong("9 letters", ONE + ",9,122,122" + a + rest);
        wrong("16 letters", ONE + ",16,122,122" + a + a + rest);
        for (int letter : new int[] {0, 64, 65, 90, 91, 96, 123, 128, 97 + 128, 255}) {
            wrong("letter " + letter, ONE + ",1," + letter + rest);
            wrong("a last letter " + letter, ONE + ",8" + a + "," + letter + rest);
        }
        String two = "73,109,2,0,1,2";
        right("terms that rise", two + ",1,97" + rest + ",1,98" + rest);
        wrong("a term twice", two + ",1,97" + rest + ",1,97" + rest);
        wrong("terms that fall", two + ",1,98" + rest + ",1,97" + rest);
        right("a beginning ahead", two + ",1,97" + rest + ",2,97,97" + rest);
        wrong("a beginning behind", two + ",2,97,97" + rest + ",1,97" + rest);
        right("what is longer ahead of another", two + ",2,97,98" + rest + ",1,98" + rest);
        right("seven letters ahead of eight", two + ",7" + a + rest + ",8" + a + ",97" + rest);
        right("eight letters that rise", two + ",8" + a + ",97" + rest + ",8" + a + ",98" + rest);
        wrong("eight letters that fall", two + ",8" + a + ",98" + rest + ",8" + a + ",97" + rest);
        wrong("eight letters twice", two + ",8" + a + ",98" + rest + ",8" + a + ",98" + rest);
    }

    private static void rightSegments() {
        wrong("no segments", ONE + ",1,97,0");
        wrong("no segments behind another term", "73,109,2,0,1,2,1,97,1,3,1,128,1,98,0");
        wrong("no segments ahead of another term", "73,109,2,0,1,2,1,97,0,1,98,1,3,1,128");
        wrong("a segment less than told", ONE + ",1,97,2,3,1,128");
        wrong("a segment more than told", FORTY + ",1,97,1,3,1,128,2,1,129");
        right("three of two bits", FORTY + ",1,97,3,3,1,128,2,1,129,1,1,130");
        wrong("a fourth of impact 0", FORTY + ",1,97,4,3,1,128,2,1,129,1,1,130,0,1,131");
        right("impact 1", ONE + ",1,97,1,1,1,128");
        wrong("impact 0", ONE + ",1,97,1,0,1,128");
        wrong("impact Q and 1", ONE + ",1,97,1,4,1,128");
        right("impact 127 of 7 bits", "73,109,7,0,1,1,1,97,1,127,1,128");
        wrong("impact 128 of 7 bits", "73,109,7,0,1,1,1,97,1,128,1,128");
        wrong("impact 255 of 7 bits", "73,109,7,0,1,1,1,97,1,255,1,128");
        right("impacts that fall by one", FORTY + ",1,97,2,3,1,128,2,1,129");
        right("impacts that fall from Q to 1", FORTY + ",1,97,2,3,1,128,1,1,129");
        wrong("equal impacts", FORTY + ",1,97,2,2,1,128,2,1,129");
        wrong("rising impacts", FORTY + ",1,97,2,2,1,128,3,1,129");
        right("impacts of each term by themselves", "73,109,2,0,1,2,1,97,1,1,1,128,1,98,1,3,1,128");
        StringBuilder forty = new StringBuilder("73,109,6,0,40,1,1,97,40");
        for (int d = 0; d < 40; d++) {
            forty.append(',').append(63 - d).append(",1,").append(128 + d);
        }
        right("40 segments", forty.toString());
    }

    private static void rightDocuments() {
        right("document 39 of 40", FORTY + ",1,97,1,3,1,167");
        wrong("document 40 of 40", FORTY + ",1,97,1,3,1,168");
        wrong("document 39 of 39", "73,109,2,0,39,1,1,97,1,3,1,167");
        wrong("document 40 of 41", "73,109,2,0,41,1,1,97,1,3,1,168");
        wrong("document 1 of 1", ONE + ",1,97,1,3,1,129");
        right("two documents of two", "73,109,2,0,2,1,1,97,1,3,2,128,128");
        wrong("three documents of two", "73,109,2,0,2,1,1,97,1,3,3,128,128,128");
        right("40 documents of 40", FORTY + ",1,97,1,3,40" + ",128".repeat(40));
        wrong("41 documents of 40", FORTY + ",1,97,1,3,41" + ",128".repeat(41));
        wrong("a document less than told", FORTY + ",1,97,1,3,2,128");
        wrong("a document more than told", FORTY + ",1,97,1,3,1,128,128");
        wrong("the first one in two segments", FORTY + ",1,97,2,3,2,128,128,2,1,128");
        wrong("the last one in two segments", FORTY + ",1,97,2,3,2,128,128,2,1,129");
        right("the one behind it", FORTY + ",1,97,2,3,2,128,128,2,1,130");
        wrong("one in the first and third", FORTY + ",1,97,3,3,1,167,2,1,128,1,1,167");
        right("one ahead of the first", FORTY + ",1,97,3,3,1,167,2,1,128,1,1,166");
        right("one in two terms", "73,109,2,0,40,2,1,97,1,3,1,167,1,98,1,3,1,167");
    }

    /** Many words again, with dddd for d: a segment of a document can stand in place of three letters. */
    private static ImpactShelf segmentsOfOne() {
        ImpactShelf x = new ImpactShelf();
        for (int d = 0; d < 26; d++) {
            Checks.add(x, manyWords(d).replace("d ", "dddd "));
        }
        x.build(8, 0);
        return x;
    }

    private static void rightPostings() {
        ImpactShelf x = segmentsOfOne();
        Checks.same("right: 600 segments of one document", x.look(3), 1);
        Checks.same("right: published", x.publish(), 1);
        x.open(0);
        Checks.same("right: 600 segments", x.index(0, 3), 600);
        Checks.same("right: 600 postings", x.index(0, 2), 600);
        // a, b and c have 25 segments each; document 3 is the one that has no d.
        int place = 6 + 3 * (3 + 25 * 3);
        Checks.same("wrong: dddd is there", x.file(place) & 0xFFFFFFFFFFFFL, 0x1964_6464_6404L);
        Checks.isTrue("wrong: its greatest impact is below 255", (x.file(place + 6) & 255) < 255);
        int[] one = {1, 'd', 26, 255, 1, 128 + 3};
        for (int i = 0; i < one.length; i++) {
            x.spoil(place + i, one[i]);
        }
        x.mend();
        Checks.same("wrong: 601 segments of one document", x.look(3), 0);
        Checks.refuses("wrong: 601 segments, published", Checks.ARGUMENT, x::publish);
        Checks.same("wrong: none has come", x.look(0), 1);
    }

    private static void rightSevens() {
        wrong("a gap of 0 in two bytes", ONE + ",1,97,1,3,1,0,128");
        wrong("a gap of 1 in two bytes", FORTY + ",1,97,1,3,1,1,128");
        wrong("a gap of 128", FORTY + ",1,97,1,3,1,0,129");
        wrong("a gap without a last byte", ONE + ",1,97,1,3,1,0");
        wrong("a gap of 127 that goes on for nothing", FORTY + ",1,97,1,3,1,127");
        wrong("a gap of 127", FORTY + ",1,97,1,3,1,255");
        wrong("a gap below 0", FORTY + ",1,97,1,3,1,127,255,255,255,143");
        right("gaps up to the last document", FORTY + ",1,97,1,3,3,138,138,145");
        wrong("gaps beyond the last document", FORTY + ",1,97,1,3,3,138,138,146");
    }

    /** A file of codec 1 with one segment of as many documents of N, and what is behind that. */
    private static String words(int n, int many, String coded) {
        return "73,109,2,1," + n + ",1,1,97,1,3," + many + "," + coded;
    }

    private static void rightWords() {
        right("a gap of 0", words(1, 1, "0" + zeros(7)));
        right("a gap of 1", words(2, 1, "16" + zeros(7)));
        right("a gap of 39", words(40, 1, "117,2" + zeros(6)));
        wrong("a gap of 40", words(40, 1, "133,2" + zeros(6)));
        wrong("a gap of 63", words(40, 1, "245,3" + zeros(6)));
        for (int way = 1; way < 16; way++) {
            wrong("way " + way + " of a gap of 0", words(40, 1, way + zeros(7)));
            wrong("way " + way + " of a gap of 1", words(40, 1, 16 + way + zeros(7)));
            wrong("way " + way + " of all bits", words(40, 1, 240 + way + ",255".repeat(7)));
            if (way != 5) {
                wrong("way " + way + " of a gap of 39", words(40, 1, 112 + way + ",2" + zeros(6)));
            }
        }
        wrong("way 0 of all bits", words(40, 1, "240" + ",255".repeat(7)));
        wrong("a bit behind the gap", words(40, 1, "32" + zeros(7)));
        wrong("the highest bit", words(40, 1, "0" + zeros(6) + ",128"));
        wrong("the highest bit behind 39", words(40, 1, "117,2" + zeros(5) + ",128"));
        right("40 gaps of 0", words(40, 40, "0" + zeros(7)));
        wrong("a 41st gap of 1", words(40, 40, "0,0,0,0,0,16,0,0"));
        right("30 gaps of 2 bits", words(40, 30, "1" + zeros(6) + ",192"));
        right("31 gaps, the first of 2 bits", words(40, 31, "33" + zeros(7) + ",0" + zeros(7)));
        wrong("another way in the second word", words(40, 31, "33" + zeros(7) + ",1" + zeros(7)));
        wrong("a word too few", words(40, 31, "33" + zeros(7)));
        wrong("a word too many", words(40, 30, "33" + zeros(7) + ",0" + zeros(7)));
        wrong("seven bytes of a word", words(40, 1, "0" + zeros(6)));
        wrong("no bytes of a word", words(40, 1, "0").replaceAll(",0$", ""));
        wrong("31 gaps by a way that holds 20", words(40, 31, "34" + zeros(7) + ",0" + zeros(7)));
    }

    private static String even(int n, int many, String coded) {
        return "73,109,2,2," + n + ",1,1,97,1,3," + many + "," + coded;
    }

    private static void rightEvenBits() {
        right("0 bits for a gap of 0", even(1, 1, "0"));
        right("0 bits for 40 gaps of 0", even(40, 40, "0"));
        wrong("0 bits and a byte", even(1, 1, "0,0"));
        wrong("1 bit for a gap of 0", even(1, 1, "1,0"));
        right("1 bit for a gap of 1", even(2, 1, "1,1"));
        wrong("2 bits for a gap of 1", even(2, 1, "2,1"));
        wrong("1 bit without a byte", even(2, 1, "1"));
        right("6 bits for a gap of 39", even(40, 1, "6,39"));
        wrong("6 bits for a gap of 40", even(40, 1, "6,40"));
        wrong("6 bits for a gap of 63", even(40, 1, "6,63"));
        wrong("5 bits for a gap of 39", even(40, 1, "5,39"));
        for (int bits : new int[] {7, 8, 16, 31, 32, 33, 64, 128, 255}) {
            wrong(bits + " bits", even(40, 1, bits + ",39" + zeros((bits + 7) / 8 - 1)));
        }
        wrong("a bit behind the gap", even(2, 1, "1,3"));
        wrong("the highest bit", even(2, 1, "1,129"));
        wrong("the highest bit behind 39", even(40, 1, "6,167"));
        right("8 gaps of 1 bit", even(40, 8, "1,255"));
        wrong("8 gaps of 1 bit and a byte", even(40, 8, "1,255,0"));
        right("9 gaps of 1 bit", even(40, 9, "1,255,1"));
        wrong("9 gaps of 1 bit and a bit", even(40, 9, "1,255,3"));
        wrong("9 gaps of 1 bit in a byte", even(40, 9, "1,255"));
    }

    private static void rightEnds() {
        Checks.same("right: no file is not", new ImpactShelf().look(3), 0);
        Twin.refuses("right: no file is not", Checks.ARGUMENT, ImpactShelf::new, ImpactShelf::publish);
        Twin.refuses("right: nor is one of nothing", Checks.ARGUMENT, FileBoundaryTest::cutToNothing, ImpactShelf::publish);
        wrong("a byte of 0 behind the last", ONE + ",1,97,1,3,1,128,0");
        wrong("a byte behind the last", ONE + ",1,97,1,3,1,128,1");
        wrong("a sum and another behind it", Checks.withSum(ONE + ",1,97,1,3,1,128"));
        // The last byte of this one's sum is a 0.
        String yxx = FORTY + ",3,121,120,120,1,3,26" + ",128".repeat(26);
        right("a sum that ends in 0", yxx);
        Checks.isTrue("right: it does", Checks.withSum(yxx).endsWith(",49,0"));
        ImpactShelf less = Shelves.ofFile(yxx);
        less.cut(less.look(2) - 1);
        Checks.same("right: not without that 0", less.look(3), 0);
        int size = fig().look(2);
        for (int k = 0; k < size; k++) {
            int place = k;
            for (int more : new int[] {1, 128, 255}) {
                ImpactShelf x = fig();
                x.spoil(k, (int) x.file(k) + more);
                Checks.same("right: byte " + k + " and " + more + " more", x.look(3), 0);
            }
            Twin.refuses("right: " + k + " bytes alone", Checks.ARGUMENT, () -> cutTo(place), ImpactShelf::publish);
        }
        ImpactShelf x = fig();
        x.mend();
        Checks.same("right: its own sum again", x.look(3), 1);
    }
}
