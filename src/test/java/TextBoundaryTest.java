/** The boundary cases that the document names of texts, words, the collection and scores (promises 2 to 6). */
public final class TextBoundaryTest {
    private TextBoundaryTest() {
    }

    public static void main(String[] args) {
        tapeAtFirst();
        tapeOf3000();
        tapeOf3000IsAText();
        feedOfEachLength();
        feedOfNoLength();
        lettersAndOthers();
        eightLetters();
        theLastS();
        theEndsOfAText();
        orderOfTerms();
        documentsUpTo40();
        lengthOfOne();
        termsUpTo64();
        postingsUpTo600();
        addWithoutAWord();
        tapeUsedUpByAdd();
        clearOfNothing();
        clearOfAll();
        clearLeavesTheRest();
        countOfNothingAndAll();
        countOfAnotherWhat();
        scoreOfOneWord();
        scoreOfNoDocument();
        scoreOfNoPosting();
        scoreAtWholeLogarithms();
        Checks.end("TextBoundaryTest");
    }

    private static void tapeAtFirst() {
        Checks.same("tape: none at first", new ImpactShelf().look(4), 0);
        Twin.refuses("tape: none at first, so no word to add", Checks.ARGUMENT, ImpactShelf::new, ImpactShelf::add);
        Twin.refuses("tape: none at first, so no word to score", Checks.ARGUMENT, ImpactShelf::new, x -> x.score(0));
        Checks.same("tape: the first byte", new ImpactShelf().feed(1, 'a'), 1);
    }

    private static ImpactShelf withTape(int bytes) {
        ImpactShelf x = new ImpactShelf();
        Checks.tape(x, "b ".repeat(1500).substring(0, bytes));
        return x;
    }

    private static void tapeOf3000() {
        for (int n = 1; n <= 8; n++) {
            int most = n;
            Checks.same("2: up to 3000 by " + n, withTape(3000 - n).feed(n, -1), 3000);
            Checks.same("2: up to 2999 by " + n, withTape(2999 - n).feed(n, -1), 2999);
            Twin.refuses("2: up to 3001 by " + n, Checks.STATE, () -> withTape(3001 - most), x -> x.feed(most, 'c'));
        }
        Twin.refuses("2: eight behind 3000", Checks.STATE, () -> withTape(3000), x -> x.feed(8, 'c'));
        Twin.refuses("2: n 0 behind 3000", Checks.ARGUMENT, () -> withTape(3000), x -> x.feed(0, 'c'));
        Twin.refuses("2: n 9 behind 3000", Checks.ARGUMENT, () -> withTape(3000), x -> x.feed(9, 'c'));
    }

    private static void tapeOf3000IsAText() {
        ImpactShelf x = withTape(3000);
        Checks.same("2: a full tape is a document", x.add(), 0);
        Checks.same("2: of 1500 words", x.count(3), 1500);
        Checks.same("2: and of one term", x.count(1), 1);
        Checks.same("2: it is empty then", x.feed(1, 'a'), 1);
        ImpactShelf y = new ImpactShelf();
        Checks.tape(y, "h".repeat(3000));
        Checks.same("2: a full tape is a word", y.add(), 0);
        Checks.same("2: one word", y.count(3), 1);
        Checks.isTrue("2: of eight letters", sameTerm("h".repeat(3000 - 8), "hhhhhhhh"));
    }

    private static void feedOfEachLength() {
        for (int n = 1; n <= 8; n++) {
            ImpactShelf x = new ImpactShelf();
            Checks.same("2: n " + n, x.feed(n, 0x6867666564636261L), n);
            x.add();
            x.build(2, 0);
            Checks.same("2: the lowest byte first, none above n " + n, firstTerm(x), "abcdefgh".substring(0, n));
        }
        ImpactShelf x = new ImpactShelf();
        x.feed(8, 0x8180FF0062610061L);
        x.add();
        Checks.same("2: bytes of 0 and above 127 part words", x.count(3), 2);
    }

    private static void feedOfNoLength() {
        for (int n : new int[] {0, 9, -1, 256 + 8, Integer.MAX_VALUE, Integer.MIN_VALUE}) {
            Twin.refuses("2: n " + n, Checks.ARGUMENT, ImpactShelf::new, x -> x.feed(n, 'c'));
            Twin.refuses("2: n " + n + " behind a text", Checks.ARGUMENT, Shelves::busyWithTape, x -> x.feed(n, 'c'));
        }
    }

    private static String firstTerm(ImpactShelf x) {
        String[] bytes = Checks.fileOf(x).split(",");
        StringBuilder term = new StringBuilder();
        for (int i = 0; i < Integer.parseInt(bytes[6]); i++) {
            term.append((char) Integer.parseInt(bytes[7 + i]));
        }
        return term.toString();
    }

    private static String firstTermOf(String text) {
        ImpactShelf x = Checks.shelfOf(text);
        x.build(2, 0);
        return firstTerm(x);
    }

    private static boolean sameTerm(String one, String other) {
        return Checks.shelfOf(one, other).count(1) == 1;
    }

    private static void lettersAndOthers() {
        for (int b = 0; b < 256; b++) {
            boolean small = b >= 'a' && b <= 'z';
            boolean great = b >= 'A' && b <= 'Z';
            ImpactShelf x = Checks.shelfOf("x" + (char) b + "x");
            Checks.same("words: byte " + b + " between letters", x.count(3), small || great ? 1 : 2);
            if (small || great) {
                Checks.same("words: letter " + b, firstTermOf("" + (char) b), "" + (char) (great ? b + 32 : b));
            }
        }
    }

    private static void eightLetters() {
        Checks.same("words: seven letters", firstTermOf("abcdefg"), "abcdefg");
        Checks.same("words: eight letters", firstTermOf("abcdefgh"), "abcdefgh");
        Checks.same("words: nine letters", firstTermOf("abcdefghi"), "abcdefgh");
        Checks.isTrue("words: another ninth letter", sameTerm("abcdefghi", "abcdefghj"));
        Checks.isFalse("words: another eighth letter", sameTerm("abcdefgh", "abcdefgj"));
        Checks.isFalse("words: seven letters and eight", sameTerm("abcdefg", "abcdefgh"));
        Checks.same("words: sixteen letters are one word", Checks.shelfOf("abcdefghabcdefgh").count(3), 1);
    }

    private static void theLastS() {
        String[][] due = {
            {"s", "s"}, {"as", "as"}, {"gas", "gas"}, {"gass", "gass"}, {"cats", "cat"}, {"CATS", "cat"},
            {"catS", "cat"}, {"catSs", "catss"}, {"catss", "catss"}, {"sss", "sss"}, {"ssss", "ssss"},
            {"asas", "asa"}, {"oases", "oase"}, {"abcdefs", "abcdef"}, {"abcdess", "abcdess"},
            {"abcdefgs", "abcdefg"}, {"abcdefss", "abcdefss"}, {"abcdefgsx", "abcdefg"}, {"abcdefssx", "abcdefss"},
            {"abcdefghs", "abcdefgh"}, {"abcdefgss", "abcdefg"}, {"abcdefsss", "abcdefss"}, {"abcdefgt", "abcdefgt"},
            {"cast", "cast"}, {"catr", "catr"}, {"catt", "catt"}, {"aars", "aar"}, {"aats", "aat"}
        };
        for (String[] pair : due) {
            Checks.same("words: the term of " + pair[0], firstTermOf(pair[0]), pair[1]);
        }
        Checks.isFalse("words: three letters keep the s", sameTerm("gas", "ga"));
        Checks.isTrue("words: four letters do not", sameTerm("gals", "gal"));
    }

    private static void theEndsOfAText() {
        Checks.same("words: a text of one letter", Checks.shelfOf("a").count(3), 1);
        Checks.same("words: letters at both ends", Checks.shelfOf("a b").count(3), 2);
        Checks.same("words: others at both ends", Checks.shelfOf(" a b ").count(3), 2);
        Checks.same("words: others between", Checks.shelfOf("a   b").count(3), 2);
        Checks.same("words: an s at the end of the text", firstTermOf("oats"), "oat");
        ImpactShelf x = Checks.shelfOf("ab");
        Checks.add(x, "a");
        Checks.same("words: none goes on in the next text", x.count(1), 2);
    }

    private static void orderOfTerms() {
        String[] rising = {"a", "aa", "aaaaaaa", "aaaaaaaa", "aaaaaaab", "aaab", "aab", "ab", "az", "b", "ba", "z", "zz"};
        for (int i = 1; i < rising.length; i++) {
            Checks.same("words: " + rising[i - 1] + " ahead of " + rising[i],
                firstTermOf(rising[i] + " " + rising[i - 1]), rising[i - 1]);
            Checks.same("words: " + rising[i - 1] + " ahead, told first",
                firstTermOf(rising[i - 1] + " " + rising[i]), rising[i - 1]);
        }
    }

    private static void documentsUpTo40() {
        Checks.same("3: the first document", Checks.add(new ImpactShelf(), "a"), 0);
        Checks.same("3: the last document", Checks.add(Shelves.documents(39), "a"), 39);
        Twin.refusesText("3: one more", Checks.STATE, () -> Shelves.documents(40), "a", ImpactShelf::add);
        Twin.refusesText("3: one more of a new term", Checks.STATE, () -> Shelves.documents(40), "b", ImpactShelf::add);
        Twin.refusesText("3: no word is told first of 40", Checks.ARGUMENT, () -> Shelves.documents(40), "1",
            ImpactShelf::add);
    }

    private static void lengthOfOne() {
        ImpactShelf x = Checks.shelfOf("a");
        Checks.same("3: a length of one", x.count(3), 1);
        Checks.add(x, "a a");
        Checks.same("3: each word counts, each term once", x.count(3) * 10 + x.count(2), 32);
    }

    private static void termsUpTo64() {
        Checks.same("3: 64 terms at once", Shelves.terms(64).count(1), 64);
        Twin.refusesText("3: 65 at once", Checks.STATE, ImpactShelf::new, Shelves.twoLetterWords(0, 65), ImpactShelf::add);
        ImpactShelf x = Shelves.terms(63);
        Checks.same("3: a 64th term", Checks.add(x, "zz aa"), 1);
        Checks.same("3: 64 terms", x.count(1), 64);
        Checks.same("3: a 64th term twice", Checks.add(Shelves.terms(63), "zz zz"), 1);
        Twin.refusesText("3: a 64th and a 65th", Checks.STATE, () -> Shelves.terms(63), "zz zy", ImpactShelf::add);
        Twin.refusesText("3: a 65th", Checks.STATE, () -> Shelves.terms(64), "zz", ImpactShelf::add);
        Twin.refusesText("3: a 65th among others", Checks.STATE, () -> Shelves.terms(64), "aa zz ab", ImpactShelf::add);
        Twin.refusesText("3: no word is told first of 64", Checks.ARGUMENT, () -> Shelves.terms(64), "", ImpactShelf::add);
        Checks.same("3: no new term", Checks.add(Shelves.terms(64), Shelves.twoLetterWords(0, 64)), 1);
    }

    private static void postingsUpTo600() {
        ImpactShelf x = Shelves.postings(599);
        Checks.same("3: 599 postings", x.count(2), 599);
        Checks.same("3: a 600th, its term twice", Checks.add(x, "a a"), 25);
        Checks.same("3: 600 postings", x.count(2), 600);
        Twin.refusesText("3: a 600th and a 601st", Checks.STATE, () -> Shelves.postings(599), "a b", ImpactShelf::add);
        Twin.refusesText("3: a 601st", Checks.STATE, () -> Shelves.postings(600), "a", ImpactShelf::add);
        Twin.refusesText("3: a 601st of a new term", Checks.STATE, () -> Shelves.postings(600), "z", ImpactShelf::add);
        Twin.refusesText("3: no word is told first of 600", Checks.ARGUMENT, () -> Shelves.postings(600), "0 9",
            ImpactShelf::add);
    }

    private static void addWithoutAWord() {
        for (String text : new String[] {"", " ", "0", "\u0000", "@[`{", "\u00e1\u00c1\u00ff"}) {
            Twin.refusesText("3: no word, " + text.length() + " bytes", Checks.ARGUMENT, Shelves::busy, text,
                ImpactShelf::add);
        }
        Checks.same("3: a word of one letter", Checks.add(Shelves.busy(), "@a["), 8);
    }

    private static void tapeUsedUpByAdd() {
        ImpactShelf x = Checks.shelfOf("rye");
        Checks.same("3: used up", x.look(4), 0);
        Checks.refuses("3: nothing is left for another", Checks.ARGUMENT, x::add);
        Checks.tape(x, "123");
        Checks.refuses("3: no word", Checks.ARGUMENT, x::add);
        Checks.same("3: used up by a throw", x.look(4), 0);
        ImpactShelf y = Shelves.documents(40);
        Checks.tape(y, "rye");
        Checks.refuses("3: a 41st", Checks.STATE, y::add);
        Checks.same("3: used up by that throw", y.look(4), 0);
    }

    private static ImpactShelf cleared() {
        ImpactShelf x = Shelves.busyWithTape();
        x.clear();
        return x;
    }

    private static void clearOfNothing() {
        Twin.answers("4: of a new object", 0, ImpactShelf::new, ImpactShelf::clear);
        Twin.answers("4: once more", 0, TextBoundaryTest::cleared, ImpactShelf::clear);
        Checks.same("4: of one", Checks.shelfOf("a").clear(), 1);
    }

    private static void clearOfAll() {
        ImpactShelf x = Shelves.documents(40);
        Checks.same("4: of 40", x.clear(), 40);
        for (int d = 0; d < 40; d++) {
            Checks.same("4: 40 others", Checks.add(x, "b"), d);
        }
        Checks.refuses("4: but no more", Checks.STATE, () -> Checks.add(x, "b"));
        ImpactShelf y = Shelves.terms(64);
        y.clear();
        Checks.same("4: 64 others", Checks.add(y, Shelves.twoLetterWords(100, 64)), 0);
        Checks.same("4: the old ones are gone", y.count(1), 64);
        ImpactShelf z = Shelves.postings(600);
        z.clear();
        Checks.same("4: postings from 0 on", Checks.add(z, "y z"), 0);
        Checks.same("4: two", z.count(2), 2);
        Checks.same("4: lengths from 0 on", z.count(3), 2);
    }

    private static void clearLeavesTheRest() {
        ImpactShelf x = Shelves.busyWithTape();
        ImpactShelf y = Shelves.busyWithTape();
        Checks.same("4: all eight", x.clear(), 8);
        for (int what = 0; what < 4; what++) {
            Checks.same("4: nothing is left", x.count(what), 0);
        }
        for (int what = 0; what < 5; what++) {
            Checks.same("4: the shelf stays, look " + what, x.look(what), y.look(what));
        }
        for (int reader = 0; reader < 4; reader++) {
            Checks.same("4: readers stay", x.holds(reader), y.holds(reader));
        }
        Checks.same("4: the file stays", Checks.fileOf(x), Checks.fileOf(y));
        Checks.same("4: the latest query stays", Twin.latestQuery(x), Twin.latestQuery(y));
        Checks.refuses("4: no document to build of", Checks.STATE, () -> x.build(2, 0));
        Checks.same("4: the tape stays", x.add(), 0);
        Checks.same("4: its words", x.count(3), 2);
        Checks.same("4: no score of an old posting", Checks.score(x, "oat", 0), 0.0);
        Checks.refuses("4: no old document", Checks.NONE, () -> Checks.score(x, "fig", 1));
    }

    private static void counts(String what, ImpactShelf x, int... due) {
        for (int i = 0; i < due.length; i++) {
            Checks.same("5: " + what + ", count " + i, x.count(i), due[i]);
        }
    }

    private static void countOfNothingAndAll() {
        counts("empty", new ImpactShelf(), 0, 0, 0, 0);
        counts("40 documents", Shelves.documents(40), 40, 1, 40, 40);
        counts("64 terms", Shelves.terms(64), 1, 64, 64, 64);
        counts("600 postings", Shelves.postings(600), 25, 24, 600, 600);
        counts("a term twice", Checks.shelfOf("a b a", "a"), 2, 2, 3, 4);
    }

    private static void countOfAnotherWhat() {
        for (int what : new int[] {-1, 4, 256, Integer.MAX_VALUE, Integer.MIN_VALUE}) {
            Twin.refuses("5: what " + what, Checks.NONE, Shelves::busyWithTape, x -> x.count(what));
        }
    }

    private static void scoreOfOneWord() {
        for (String text : new String[] {"", "1 2", "oat rye", "oat oat", "oat a", "oats, figs, ryes"}) {
            Twin.refusesText("6: not just one word: " + text, Checks.ARGUMENT, Shelves::busy, text, x -> x.score(0));
            Twin.refusesText("6: told first of no document: " + text, Checks.ARGUMENT, Shelves::busy, text,
                x -> x.score(8));
        }
        ImpactShelf x = Shelves.busy();
        Checks.isTrue("6: just one word", Checks.score(x, "1 OATS 2", 0) > 0);
        Checks.same("6: used up", x.look(4), 0);
        Checks.refuses("6: nothing is left for another", Checks.ARGUMENT, () -> x.score(0));
    }

    private static void scoreOfNoDocument() {
        for (int document : new int[] {-1, 8, 39, 40, Integer.MAX_VALUE, Integer.MIN_VALUE}) {
            Twin.refusesText("6: no document " + document, Checks.NONE, Shelves::busy, "oat", x -> x.score(document));
        }
        Twin.refusesText("6: no document at all", Checks.NONE, ImpactShelf::new, "oat", x -> x.score(0));
        Checks.isTrue("6: the first document", Checks.score(Shelves.busy(), "oat", 0) > 0);
        Checks.isTrue("6: the last document", Checks.score(Shelves.busy(), "wheat", 7) > 0);
        Checks.same("6: the last one of 40", Checks.score(Shelves.documents(40), "a", 39), 0.0);
        Twin.refusesText("6: the one behind it", Checks.NONE, () -> Shelves.documents(40), "a", x -> x.score(40));
    }

    private static void scoreOfNoPosting() {
        Checks.same("6: a term of other documents", Checks.score(Shelves.busy(), "oat", 3), 0.0);
        Checks.same("6: a term of none", Checks.score(Shelves.busy(), "maize", 0), 0.0);
        Checks.same("6: ahead of all terms", Checks.score(Shelves.busy(), "a", 0), 0.0);
        Checks.same("6: behind all terms", Checks.score(Shelves.busy(), "zz", 0), 0.0);
        Checks.same("6: a beginning of a term", Checks.score(Shelves.busy(), "oa", 0), 0.0);
        Checks.same("6: a term of all documents", Checks.score(Checks.shelfOf("a b", "a"), "a", 0), 0.0);
        ImpactShelf x = Checks.shelfOf("a");
        Checks.same("6: of the collection as it is", Checks.score(x, "a", 0), 0.0);
        Checks.add(x, "b");
        Checks.same("6: and as it is then", Checks.score(x, "a", 0), 0.6931471805599453);
    }

    /** Documents of one word: a in the first of them, b in all others; the length is the mean, so LN(N / DF) alone. */
    private static double logarithm(int n, int df) {
        ImpactShelf x = new ImpactShelf();
        for (int d = 0; d < n; d++) {
            Checks.add(x, d < df ? "a" : "b");
        }
        return Checks.score(x, "a", 0);
    }

    private static void scoreAtWholeLogarithms() {
        Checks.same("6: LN of 1", logarithm(40, 40), 0.0);
        Checks.same("6: LN of 2", logarithm(2, 1), 0.6931471805599453);
        Checks.same("6: LN of 2 once more", logarithm(40, 20), 0.6931471805599453);
        Checks.same("6: LN of 4", logarithm(4, 1), 2 * 0.6931471805599453);
        Checks.same("6: LN of 32", logarithm(32, 1), 5 * 0.6931471805599453);
        // Reckoned apart, near 2 where each of the terms 1, 3, .. 23 counts, and none beyond.
        Checks.same("6: LN of 39 / 20", logarithm(39, 20), 0.6678293725756113);
        Checks.same("6: LN of 40 / 21", logarithm(40, 21), 0.6443570163904941);
        Checks.same("6: LN of 39 / 10", logarithm(39, 10), 1.3609765531355564);
        Checks.same("6: LN of 31", logarithm(31, 1), 3.433987204485111);
        int[][] others = {{40, 19}, {40, 39}, {40, 11}, {39, 1}, {40, 1}, {3, 1}};
        for (int[] pair : others) {
            double near = Math.log((double) pair[0] / pair[1]);
            double got = logarithm(pair[0], pair[1]);
            Checks.isTrue("6: LN of " + pair[0] + " / " + pair[1], got - near < 1e-9 && near - got < 1e-9);
        }
    }
}
