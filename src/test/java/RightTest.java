/** When a row of bytes is right: files that are spoiled in one place or a few, and mended. */
public final class RightTest {
    private RightTest() {
    }

    public static void main(String[] args) {
        heads();
        terms();
        segments();
        gapsOfSevens();
        gapsOfWords();
        gapsOfEvenBits();
        sums();
        manyPostings();
        cuts();
        Checks.end("RightTest");
    }

    /**
     * bean 15 in document 2, fig 11 in 1, oat 1 in 0 .. 2, rye 12 in 0; in codec 0:
     * 0: 73,109,4,0,3,4; 6: 4,b,e,a,n,1,15,1,130; 15: 3,f,i,g,1,11,1,129; 23: 3,o,a,t,1,1,3,128,128,128;
     * 33: 3,r,y,e,1,12,1,128; 41: the sum.
     */
    private static ImpactShelf three(int codec) {
        ImpactShelf x = Checks.shelfOf("oat rye", "oat oat fig", "oat bean bean bean");
        x.build(4, codec);
        return x;
    }

    /** A file of this codec with places and what they become, in turn, is right or is not. */
    private static void right(String what, boolean due, int codec, int... changes) {
        ImpactShelf x = three(codec);
        for (int i = 0; i + 1 < changes.length; i += 2) {
            x.spoil(changes[i], changes[i + 1]);
        }
        x.mend();
        Checks.same(what, x.look(3), due ? 1 : 0);
        if (due) {
            Checks.same(what + ", published", x.publish(), 1);
        } else {
            Checks.refuses(what + ", published", Checks.ARGUMENT, x::publish);
        }
    }

    private static void heads() {
        right("as it is", true, 0);
        right("byte 0", false, 0, 0, 74);
        right("byte 1", false, 0, 1, 108);
        right("bits that are too few for 15", false, 0, 2, 3);
        right("more bits", true, 0, 2, 5);
        right("eight bits", true, 0, 2, 8);
        right("nine bits", false, 0, 2, 9);
        right("two bits", true, 0, 2, 2, 12, 3, 20, 2, 38, 1);
        right("one bit", false, 0, 2, 1, 12, 1, 20, 1, 38, 1);
        right("another codec", false, 0, 3, 1);
        right("no codec", false, 0, 3, 3);
        right("N too small", false, 0, 4, 2);
        right("N greater", true, 0, 4, 4);
        right("N 40", true, 0, 4, 40);
        right("N 41", false, 0, 4, 41);
        right("N 0", false, 0, 4, 0);
        right("fewer terms", false, 0, 5, 3);
        right("more terms", false, 0, 5, 5);
        right("no terms", false, 0, 5, 0);
        right("65 terms", false, 0, 5, 65);
    }

    private static void terms() {
        right("fewer letters", false, 0, 6, 3);
        right("no letters", false, 0, 6, 0);
        right("nine letters", false, 0, 6, 9);
        right("another term", true, 0, 7, 'a');
        right("a term that no word gives", true, 0, 10, 's');
        right("up to z", true, 0, 36, 'z', 35, 'z', 34, 'z');
        right("behind z", false, 0, 36, 'z' + 1);
        right("ahead of a", false, 0, 7, 'a' - 1);
        right("a great letter", false, 0, 7, 'B');
        right("above 127", false, 0, 36, 200);
        right("terms that fall", false, 0, 7, 'g');
        right("a term twice", false, 0, 24, 'f', 25, 'i', 26, 'g');
        right("a letter behind the same two", true, 0, 24, 'f', 25, 'i', 26, 'h');
        ImpactShelf x = Checks.shelfOf("ab abc");
        x.build(2, 0);
        x.spoil(8, 'c');
        x.mend();
        Checks.same("what is longer ahead of another", x.look(3), 0);
        x.build(2, 0);
        x.spoil(8, 'a');
        x.mend();
        Checks.same("ahead of what is longer", x.look(3), 1);
    }

    private static void segments() {
        right("no segments", false, 0, 11, 0);
        right("segments that are not there", false, 0, 11, 2);
        right("impact 0", false, 0, 12, 0);
        right("another impact", true, 0, 12, 1);
        right("impact above Q", false, 0, 12, 16);
        right("no documents", false, 0, 13, 0);
        right("documents that are not there", false, 0, 13, 2);
        right("more documents than there can be", false, 0, 29, 41);
        // fig: 26: 3,f,i,g,2,4,1,131,3,2,129,130.
        six("as it is", true);
        six("falling impacts", true, 20, 5);
        six("equal impacts", false, 20, 3);
        six("rising impacts", false, 20, 2);
        six("another segment has it", false, 22, 129);
        six("another segment has it as its last", false, 22, 132);
        six("none other has it", true, 22, 128);
    }

    private static void six(String what, boolean due, int... changes) {
        ImpactShelf x = Checks.shelfOf("oat rye oat", "oat oat fig", "oat bean bean bean", "rye fig fig rye rye rye",
            "oat fig", "rye");
        x.build(4, 0);
        for (int i = 0; i + 1 < changes.length; i += 2) {
            x.spoil(changes[i], changes[i + 1]);
        }
        x.mend();
        Checks.same(what, x.look(3), due ? 1 : 0);
    }

    private static void gapsOfSevens() {
        right("another document", true, 0, 14, 128);
        right("a document too great", false, 0, 14, 131);
        right("a gap that goes on", false, 0, 14, 2);
        right("a gap that goes on for nothing", false, 0, 30, 0);
        right("documents too great together", false, 0, 30, 129);
        right("the greatest gap of all", false, 0, 14, 255);
        right("room for a gap", true, 0, 4, 40, 14, 128 + 39);
        right("no room for a gap", false, 0, 4, 40, 14, 128 + 40);
    }

    // bean's word is at 14 .. 21: 33, way 1 with a gap of 2; oat's, three gaps of 0, at 44.
    private static void gapsOfWords() {
        right("codec 1", true, 1);
        right("a way that is not the least", false, 1, 14, 34);
        right("a gap that a lesser way holds", false, 1, 14, 17);
        right("a gap of 0 that a lesser way holds", false, 1, 14, 1);
        right("a lesser way", true, 1, 14, 16);
        right("a gap of two bits too great for N", false, 1, 14, 49);
        right("room for it", true, 1, 14, 49, 4, 4);
        for (int way = 11; way < 16; way++) {
            right("way " + way, false, 1, 14, 32 + way);
        }
        right("way 10, where 1 would do", false, 1, 14, 42);
        right("something behind the gaps", false, 1, 15, 1);
        right("something at the end of the word", false, 1, 21, 128);
        right("a gap of 35 bits", false, 1, 14, 9, 20, 64);
    }

    // bean's gap is at 14: 2 bits, 2; fig's at 23: 1 bit, 1; oat's at 32: 0 bits.
    private static void gapsOfEvenBits() {
        right("codec 2", true, 2);
        right("more bits than the greatest gap has", false, 2, 14, 3);
        right("fewer bits", false, 2, 14, 1);
        right("no bits", false, 2, 14, 0);
        right("seven bits", false, 2, 14, 7);
        right("255 bits", false, 2, 14, 255);
        right("a lesser gap", false, 2, 15, 1);
        right("a gap too great", false, 2, 15, 3);
        right("room for it", true, 2, 15, 3, 4, 4);
        right("bits behind the gaps", false, 2, 15, 6);
        right("the highest bit behind them", false, 2, 15, 130);
        right("six bits", true, 2, 14, 6, 15, 32, 4, 33);
        right("six bits and N too small", false, 2, 14, 6, 15, 32, 4, 32);
    }

    private static void sums() {
        for (int codec = 0; codec < 3; codec++) {
            ImpactShelf x = three(codec);
            int size = x.look(2);
            for (int k = 0; k < size; k++) {
                int before = x.spoil(k, (int) x.file(k) + 1);
                Checks.same("byte " + k + " without a new sum", x.look(3), 0);
                x.spoil(k, before);
            }
            Checks.same("all as before", x.look(3), 1);
            x.cut(0);
        }
    }

    /** 14 terms in all of 40 documents, and others in the first alone, whose documents become 40 by a spoiled byte. */
    private static void manyPostings() {
        String all = "a b c d e f g h i j k l m n";
        Checks.same("600 postings", postingsOf(all, "p"), 600);
        Checks.same("601 postings", postingsOf(all, "p q"), -1);
    }

    private static int postingsOf(String all, String first) {
        ImpactShelf x = new ImpactShelf();
        for (int d = 0; d < 40; d++) {
            Checks.add(x, d == 0 ? all + " " + first : all);
        }
        int size = x.build(2, 2);
        int term = size - 4 - 6 * first.split(" ").length;
        x.spoil(term + 4, 40);
        x.mend();
        x.open(0);
        if (x.look(3) == 0) {
            Checks.refuses("too many postings", Checks.ARGUMENT, x::publish);
            return -1;
        }
        x.publish();
        x.open(1);
        return x.index(1, 2);
    }

    private static void cuts() {
        for (int codec = 0; codec < 3; codec++) {
            ImpactShelf x = three(codec);
            for (int n = x.look(2) - 1; n >= 0; n--) {
                x.cut(n);
                x.mend();
                Checks.same("codec " + codec + " cut to " + n, x.look(3), 0);
            }
        }
    }
}
