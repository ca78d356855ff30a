/** Each promise by itself: ordinary calls, the edges that the document names, and wrong calls. */
public final class PromiseTest {
    private static final long EVER = Shelves.EVER;

    private PromiseTest() {
    }

    public static void main(String[] args) {
        newObject();
        feed();
        add();
        addOfWords();
        addToItsLimits();
        clear();
        count();
        score();
        build();
        buildImpacts();
        file();
        spoil();
        cut();
        mend();
        publish();
        publishToItsLimit();
        open();
        close();
        query();
        queryRefused();
        hit();
        sum();
        last();
        plan();
        exhaustive();
        look();
        holds();
        index();
        clock();
        Checks.end("PromiseTest");
    }

    private static String many(String text, int times) {
        return text.repeat(times);
    }

    private static void newObject() {
        ImpactShelf x = new ImpactShelf();
        for (int what = 0; what < 4; what++) {
            Checks.same("1: count of a new object", x.count(what), 0);
        }
        for (int what = 0; what < 5; what++) {
            Checks.same("1: look of a new object", x.look(what), 0);
        }
        for (int what = 0; what < 6; what++) {
            Checks.same("1: last of a new object", x.last(what), 0);
        }
        for (int reader = 0; reader < 4; reader++) {
            Checks.same("1: holds of a new object", x.holds(reader), -1);
        }
        Checks.same("1: clock of a new object", x.clock(), 0);
        Checks.refuses("1: no file", Checks.NONE, () -> x.file(0));
        ImpactShelf other = Checks.shelfOf("one");
        Checks.same("1: objects are apart", x.count(0), 0);
        Checks.same("1: objects are apart, the other", other.count(0), 1);
    }

    private static void feed() {
        ImpactShelf x = new ImpactShelf();
        Checks.same("2: one byte", x.feed(1, 0x6161), 1);
        Checks.same("2: eight bytes", x.feed(8, -1L), 9);
        Checks.refuses("2: n 0", Checks.ARGUMENT, () -> x.feed(0, 1));
        Checks.refuses("2: n 9", Checks.ARGUMENT, () -> x.feed(9, 1));
        Checks.refuses("2: n below 0", Checks.ARGUMENT, () -> x.feed(Integer.MIN_VALUE, 1));
        Checks.same("2: refused bytes are none", x.look(4), 9);
        x.add();
        Checks.same("2: only the lowest bytes count", x.count(3), 1);
        ImpactShelf y = Checks.shelfOf("ab", "c");
        y.feed(2, 0x6261);
        Checks.isTrue("2: the lowest comes first", y.score(0) > 0);
        for (int i = 0; i < 374; i++) {
            x.feed(8, 0x6120612061206120L);
        }
        Checks.same("2: 2992 and 3", x.feed(3, 0), 2995);
        Checks.refuses("2: 3001 bytes", Checks.STATE, () -> x.feed(6, 0));
        Checks.refuses("2: n 9 of a full tape", Checks.ARGUMENT, () -> x.feed(9, 0));
        Checks.same("2: 3000 bytes", x.feed(5, 0), 3000);
        Checks.refuses("2: one more", Checks.STATE, () -> x.feed(1, 0));
        Checks.same("2: a full tape is one document", x.add(), 1);
        Checks.same("2: its words", x.count(3), 1 + 374 * 4);
        Checks.same("2: the tape was used up", x.feed(2, 0), 2);
    }

    private static void add() {
        ImpactShelf x = new ImpactShelf();
        Checks.refuses("3: an empty tape", Checks.ARGUMENT, x::add);
        Checks.same("3: the first document", Checks.add(x, "rye"), 0);
        Checks.same("3: the second one", Checks.add(x, "rye oat"), 1);
        Checks.same("3: the tape is used up", x.look(4), 0);
        Checks.refuses("3: no word", Checks.ARGUMENT, () -> Checks.add(x, "12 -\u00e9@[`{\u00c1"));
        Checks.same("3: the tape is used up by a throw", x.look(4), 0);
        Checks.same("3: a throw adds nothing", x.count(0), 2);
    }

    private static void addOfWords() {
        String[][] same = {
            {"OAT", "oat"}, {"oats", "oat"}, {"classes", "classe"}, {"barleycornx", "barleyco"},
            {"barleycs", "barleyc"}, {"barleycsx", "barleyc"}, {"oatss", "oatss"}, {"gas", "gas"}, {"ssss", "ssss"},
            {"gass", "gass"}, {"abcs", "abc"}, {"abcdefgsq", "abcdefg"}, {"abcdefssq", "abcdefss"}, {"Zs", "zs"}
        };
        for (String[] pair : same) {
            ImpactShelf x = Checks.shelfOf(pair[0], "elsewhere");
            x.build(2, 0);
            StringBuilder due = new StringBuilder().append(pair[1].length());
            for (int i = 0; i < pair[1].length(); i++) {
                due.append(',').append((int) pair[1].charAt(i));
            }
            Checks.isTrue("3: the term of " + pair[0], Checks.fileOf(x).contains("," + due + ",1,3,1,"));
        }
        ImpactShelf x = Checks.shelfOf("a@b[c`d{e\u00e1f7g h");
        Checks.same("3: what parts words", x.count(3), 8);
        Checks.same("3: terms in one document", x.count(1), 8);
    }

    private static void addToItsLimits() {
        ImpactShelf x = new ImpactShelf();
        Checks.refuses("3: 65 terms", Checks.STATE, () -> Checks.add(x, Shelves.twoLetterWords(0, 65)));
        Checks.same("3: none of them came", x.count(1), 0);
        Checks.same("3: 64 terms", Checks.add(x, Shelves.twoLetterWords(0, 64)), 0);
        Checks.refuses("3: one more", Checks.STATE, () -> Checks.add(x, "zz aa"));
        Checks.same("3: the tape is used up", x.look(4), 0);
        Checks.same("3: postings as before", x.count(2), 64);
        Checks.same("3: a term that is there", Checks.add(x, "aa aa"), 1);
        ImpactShelf y = new ImpactShelf();
        for (int d = 0; d < 40; d++) {
            Checks.same("3: forty documents of fifteen terms", Checks.add(y, "a b c d e f g h i j k l m n o"), d);
        }
        Checks.same("3: 600 postings", y.count(2), 600);
        Checks.refuses("3: a document too many", Checks.STATE, () -> Checks.add(y, "a"));
        Checks.refuses("3: a document too many, without words", Checks.ARGUMENT, () -> Checks.add(y, "1"));
        y.clear();
        for (int d = 0; d < 25; d++) {
            Checks.add(y, "a b c d e f g h i j k l m n o p q r s t u v w x");
        }
        Checks.same("3: 600 postings of 25", y.count(2), 600);
        Checks.refuses("3: a posting too many", Checks.STATE, () -> Checks.add(y, "a"));
        Checks.same("3: documents as before", y.count(0), 25);
        ImpactShelf z = Shelves.documents(40);
        Checks.refuses("3: a small one too many", Checks.STATE, () -> Checks.add(z, "a"));
        Checks.same("3: it did not come", z.count(3), 40);
    }

    private static void clear() {
        ImpactShelf x = new ImpactShelf();
        Checks.same("4: an empty one", x.clear(), 0);
        Checks.add(x, "rye oat");
        Checks.add(x, "fig fig");
        x.build(2, 0);
        x.feed(1, 'a');
        Checks.same("4: two documents", x.clear(), 2);
        for (int what = 0; what < 4; what++) {
            Checks.same("4: nothing is left", x.count(what), 0);
        }
        Checks.same("4: the file stays", x.look(3), 1);
        Checks.same("4: the tape stays", x.look(4), 1);
        Checks.same("4: numbers begin anew", x.add(), 0);
        Checks.same("4: old terms are gone", Checks.score(x, "fig", 0), Double.valueOf(0.0));
    }

    private static void count() {
        ImpactShelf x = Checks.shelfOf("rye oat rye", "oats bean", "bean");
        Checks.same("5: N", x.count(0), 3);
        Checks.same("5: terms", x.count(1), 3);
        Checks.same("5: postings", x.count(2), 5);
        Checks.same("5: lengths", x.count(3), 6);
        Checks.refuses("5: what 4", Checks.NONE, () -> x.count(4));
        Checks.refuses("5: what -1", Checks.NONE, () -> x.count(-1));
    }

    private static void score() {
        ImpactShelf x = Checks.shelfOf("rye", "oat rye rye");
        double near = Math.log(2.0) * (1.9 * 1 / (0.9 * (0.6 + 0.4 * 3 / 2.0) + 1));
        Checks.isTrue("6: about what a true logarithm gives", Math.abs(Checks.score(x, "oat", 1) - near) < 1e-9);
        Checks.same("6: a term of all documents", Checks.score(x, "rye", 1), Double.valueOf(0.0));
        Checks.same("6: no such posting", Checks.score(x, "oat", 0), Double.valueOf(0.0));
        Checks.same("6: no such term", Checks.score(x, "fig", 0), Double.valueOf(0.0));
        Checks.same("6: the tape is used up", x.look(4), 0);
        Checks.isTrue("6: the word is a term", Checks.score(x, "- OATS.", 1) > 0);
        ImpactShelf y = Checks.shelfOf("the cat sat on the mat", "cats", "a dog");
        Checks.same("6: a fixed answer", Checks.score(y, "the", 0), Double.valueOf(thrice(2, 6, 3.0)));
        x.feed(8, -1L);
        Checks.refuses("6: no word", Checks.ARGUMENT, () -> x.score(0));
        Checks.same("6: used up by a throw", x.look(4), 0);
        Checks.refuses("6: one word twice", Checks.ARGUMENT, () -> Checks.score(x, "oat oat", 1));
        Checks.refuses("6: two words, no document", Checks.ARGUMENT, () -> Checks.score(x, "oat rye", 2));
        Checks.refuses("6: document 2", Checks.NONE, () -> Checks.score(x, "oat", 2));
        Checks.same("6: used up by the other throw", x.look(4), 0);
        Checks.refuses("6: document -1", Checks.NONE, () -> Checks.score(x, "oat", -1));
        Checks.refuses("6: no documents", Checks.NONE, () -> Checks.score(new ImpactShelf(), "oat", 0));
    }

    /** The score of a term of one document among three, with LN(3) written out. */
    private static double thrice(double tf, double length, double mean) {
        double y = (1.5 - 1) / (1.5 + 1);
        double t = y;
        double s = 0;
        for (int k = 1; k <= 23; k += 2) {
            s += t / k;
            t = t * y * y;
        }
        return (2 * s + 1 * 0.6931471805599453) * (1.9 * tf / (0.9 * (0.6 + 0.4 * length / mean) + tf));
    }

    private static void build() {
        ImpactShelf x = new ImpactShelf();
        Checks.refuses("7: no document", Checks.STATE, () -> x.build(2, 0));
        Checks.refuses("7: neither document nor bits", Checks.ARGUMENT, () -> x.build(1, 0));
        Checks.add(x, "fig oat");
        for (int bits : new int[] {1, 9, -1, 0, 34}) {
            Checks.refuses("7: bits " + bits, Checks.ARGUMENT, () -> x.build(bits, 0));
        }
        for (int codec : new int[] {-1, 3, 256}) {
            Checks.refuses("7: codec " + codec, Checks.ARGUMENT, () -> x.build(2, codec));
        }
        Checks.same("7: a throw makes no file", x.look(2), 0);
        Checks.same("7: how many bytes", x.build(8, 0), 26);
        Checks.same("7: one score gives Q", Checks.fileOf(x),
            Checks.withSum("73,109,8,0,1,2,3,102,105,103,1,255,1,128,3,111,97,116,1,255,1,128"));
        buildGaps();
    }

    private static void buildGaps() {
        ImpactShelf x = new ImpactShelf();
        for (int d = 0; d < 40; d++) {
            Checks.add(x, d < 20 || d == 39 ? "a" : "b");
        }
        x.build(2, 0);
        Checks.same("7: codec 0", Checks.fileOf(x), Checks.withSum("73,109,2,0,40,2,1,97,1,1,21" + many(",128", 20)
            + ",147,1,98,1,3,19,148" + many(",128", 18)));
        // a: twenty gaps of 0 are a word of way 2, the last, 19, one of way 4; b: 20 and eleven 0s, then seven 0s.
        Checks.same("7: how many bytes, codec 1", x.build(2, 1), 52);
        Checks.same("7: codec 1", Checks.fileOf(x), Checks.withSum("73,109,2,1,40,2,1,97,1,1,21,2" + many(",0", 7)
            + ",52,1" + many(",0", 6) + ",1,98,1,3,19,68,1" + many(",0", 14)));
        // a: 19 in the bits 100 .. 104.
        x.build(2, 2);
        Checks.same("7: codec 2", Checks.fileOf(x), Checks.withSum("73,109,2,2,40,2,1,97,1,1,21,5" + many(",0", 12)
            + ",48,1,1,98,1,3,19,5,20" + many(",0", 11)));
        ImpactShelf y = Checks.shelfOf("a", "b", "a");
        y.build(2, 2);
        Checks.same("7: codec 2, gaps of a bit and of none", Checks.fileOf(y),
            Checks.withSum("73,109,2,2,3,2,1,97,1,1,2,1,2,1,98,1,3,1,1,1"));
        ImpactShelf z = Checks.shelfOf("a", "a");
        z.build(2, 2);
        Checks.same("7: codec 2, gaps of 0", Checks.fileOf(z), Checks.withSum("73,109,2,2,2,1,1,97,1,3,2,0"));
        z.build(2, 1);
        Checks.same("7: codec 1, gaps of 0", Checks.fileOf(z), Checks.withSum("73,109,2,1,2,1,1,97,1,3,2" + many(",0", 8)));
    }

    private static void buildImpacts() {
        ImpactShelf x = Shelves.sixDocuments();
        Checks.same("7: impacts of four bits", x.build(4, 0), 58);
        Checks.same("7: segments by falling impacts", Checks.fileOf(x), Checks.withSum("73,109,4,0,6,4"
            + ",4,98,101,97,110,1,15,1,130" + ",3,102,105,103,2,4,1,131,3,2,129,130"
            + ",3,111,97,116,2,2,2,128,128,1,2,130,129" + ",3,114,121,101,3,5,1,131,4,1,133,3,1,128"));
        x.clear();
        Checks.add(x, "b abc ab b");
        x.build(2, 0);
        Checks.same("7: a beginning before what is longer", Checks.fileOf(x),
            Checks.withSum("73,109,2,0,1,3,2,97,98,1,3,1,128,3,97,98,99,1,3,1,128,1,98,1,3,1,128"));
    }

    private static void file() {
        ImpactShelf x = Checks.shelfOf("fig");
        Checks.refuses("8: no file", Checks.NONE, () -> x.file(0));
        Checks.same("8: of 18 bytes", x.build(8, 0), 18);
        Checks.same("8: eight bytes", x.file(0), 0x660301010008_6D49L);
        Checks.same("8: eight others, the highest above 127", x.file(4), 0xFF01_6769_6603_0101L);
        Checks.same("8: the last byte", x.file(17), x.spoil(17, 0));
        Checks.same("8: 0 behind the end", x.file(13) >>> 40, 0);
        Checks.same("8: the last four", x.file(12), (x.file(10) >>> 16));
        Checks.refuses("8: no byte 18", Checks.NONE, () -> x.file(18));
        Checks.refuses("8: no byte -1", Checks.NONE, () -> x.file(-1));
        Checks.refuses("8: no greatest byte", Checks.NONE, () -> x.file(Integer.MAX_VALUE));
        x.cut(9);
        Checks.same("8: what was cut is 0", x.file(8), 'i');
        Checks.refuses("8: what was cut is none", Checks.NONE, () -> x.file(9));
    }

    private static void spoil() {
        ImpactShelf x = Checks.shelfOf("fig");
        Checks.refuses("9: no file", Checks.NONE, () -> x.spoil(0, 1));
        x.build(8, 0);
        Checks.same("9: what it was", x.spoil(1, 0x1FE), 109);
        Checks.same("9: its lowest bits", x.spoil(1, -1), 0xFE);
        Checks.same("9: of one below 0", x.spoil(1, 109), 255);
        Checks.same("9: all is as before", x.look(3), 1);
        Checks.refuses("9: no byte 18", Checks.NONE, () -> x.spoil(18, 1));
        Checks.refuses("9: no byte -1", Checks.NONE, () -> x.spoil(-1, 1));
        x.spoil(17, 77);
        Checks.same("9: the last one", x.spoil(17, 0), 77);
    }

    private static void cut() {
        ImpactShelf x = Checks.shelfOf("fig");
        Checks.isTrue("10: nothing of nothing", x.cut(0));
        Checks.isFalse("10: a byte of nothing", x.cut(1));
        x.build(8, 0);
        Checks.isFalse("10: more than it has", x.cut(19));
        Checks.isFalse("10: below 0", x.cut(-1));
        Checks.same("10: nothing was cut", x.look(2), 18);
        Checks.isTrue("10: all that it has", x.cut(18));
        Checks.same("10: it is right", x.look(3), 1);
        Checks.isTrue("10: one less", x.cut(17));
        Checks.same("10: it is not right", x.look(3), 0);
        Checks.same("10: its bytes", x.look(2), 17);
        Checks.isTrue("10: to nothing", x.cut(0));
        Checks.same("10: no bytes", x.look(2), 0);
    }

    private static void mend() {
        ImpactShelf x = Checks.shelfOf("fig");
        Checks.isFalse("11: no file", x.mend());
        x.build(8, 0);
        String whole = Checks.fileOf(x);
        x.spoil(15, 3);
        x.spoil(17, 3);
        Checks.isTrue("11: the sum again", x.mend());
        Checks.same("11: as it was", Checks.fileOf(x), whole);
        x.cut(7);
        Checks.isTrue("11: of seven", x.mend());
        Checks.same("11: the sum of three", Checks.fileOf(x), Checks.withSum("73,109,8"));
        x.cut(4);
        Checks.isTrue("11: of four", x.mend());
        Checks.same("11: the sum of none", Checks.fileOf(x), "1,0,0,0");
        x.cut(3);
        Checks.isFalse("11: of three", x.mend());
        Checks.same("11: they stay", Checks.fileOf(x), "1,0,0");
        ImpactShelf y = Checks.shelfOf(Shelves.twoLetterWords(0, 64).replace(" ", "zzzzzz "));
        y.build(8, 0);
        String all = Checks.fileOf(y);
        Checks.same("11: a sum whose parts both passed 65521", all,
            Checks.withSum(all.substring(0, all.replaceAll("(,[0-9]+){4}$", "").length())));
    }

    private static void publish() {
        ImpactShelf x = new ImpactShelf();
        Checks.refuses("12: no file", Checks.ARGUMENT, x::publish);
        Checks.add(x, "fig");
        x.build(8, 0);
        Checks.same("12: the first", x.publish(), 1);
        Checks.same("12: the same again", x.publish(), 2);
        x.spoil(17, 1);
        Checks.refuses("12: not right", Checks.ARGUMENT, x::publish);
        Checks.same("12: no generation by a throw", x.look(0), 2);
        x.open(0);
        Checks.add(x, "rye");
        x.build(3, 1);
        x.clear();
        Checks.same("12: of the file, not of the collection", x.publish(), 3);
        x.cut(0);
        x.open(1);
        Checks.same("12: the newer", x.index(1, 0), 2);
        Checks.same("12: the older stays", x.index(0, 0), 1);
        Checks.same("12: query of the older", Checks.query(x, "fig", 0, 9, 9, EVER), 1);
        Checks.same("12: a sum of eight bits", x.sum(0), 255);
        Checks.same("12: query of the newer", Checks.query(x, "rye", 1, 9, 9, EVER), 1);
        Checks.same("12: a sum of three bits", x.sum(1), 7);
    }

    private static void publishToItsLimit() {
        ImpactShelf x = Checks.shelfOf("fig");
        x.open(3);
        x.build(8, 0);
        for (int g = 1; g < 4; g++) {
            Checks.same("12: room for three", x.publish(), g);
            x.open(g - 1);
        }
        Checks.refuses("12: none goes", Checks.STATE, x::publish);
        Checks.same("12: none came", x.look(0), 3);
        Checks.same("12: three are kept, 0 is none of them", x.look(1), 3);
        x.spoil(0, 1);
        Checks.refuses("12: not right, and none goes", Checks.ARGUMENT, x::publish);
        x.spoil(0, 73);
        x.close(2);
        Checks.same("12: the latest is kept without a reader", x.look(1), 3);
        Checks.same("12: the latest goes", x.publish(), 4);
        Checks.same("12: three again", x.look(1), 3);
        Checks.same("12: the latest goes, once more", x.publish(), 5);
        x.open(2);
        Checks.refuses("12: none goes, once more", Checks.STATE, x::publish);
        x.close(3);
        Checks.refuses("12: 0 makes no room", Checks.STATE, x::publish);
        x.open(3);
        x.close(2);
        Checks.refuses("12: two held the latest", Checks.STATE, x::publish);
        x.close(0);
        Checks.same("12: one that was closed went", x.look(1), 2);
        Checks.same("12: room", x.publish(), 6);
        Checks.same("12: kept are 2, 5 and 6", x.look(1), 3);
        Checks.same("12: 2", x.holds(1), 2);
        Checks.same("12: 5", x.holds(3), 5);
    }

    private static void open() {
        ImpactShelf x = Checks.shelfOf("fig");
        Checks.same("13: the empty one", x.open(0), 0);
        x.build(2, 0);
        x.publish();
        Checks.refuses("13: it holds one", Checks.STATE, () -> x.open(0));
        Checks.same("13: it still does", x.holds(0), 0);
        Checks.same("13: the last reader", x.open(3), 1);
        Checks.refuses("13: reader 4", Checks.ARGUMENT, () -> x.open(4));
        Checks.refuses("13: reader -1", Checks.ARGUMENT, () -> x.open(-1));
        x.close(0);
        Checks.same("13: the latest this time", x.open(0), 1);
        Checks.same("13: what it holds", x.index(0, 0), 1);
    }

    private static void close() {
        ImpactShelf x = Shelves.opened(1);
        Checks.isFalse("14: it was closed", x.close(0));
        Checks.refuses("14: reader 4", Checks.ARGUMENT, () -> x.close(4));
        Checks.refuses("14: reader -1", Checks.ARGUMENT, () -> x.close(-1));
        x.open(2);
        x.publish();
        Checks.same("14: an older one is kept", x.look(1), 2);
        Checks.isTrue("14: one of two readers", x.close(1));
        Checks.same("14: the other holds it", x.look(1), 2);
        Checks.isTrue("14: the other", x.close(2));
        Checks.same("14: it is gone", x.look(1), 1);
        Checks.isFalse("14: once only", x.close(2));
        x.open(0);
        Checks.isTrue("14: of the latest", x.close(0));
        Checks.same("14: that is kept", x.look(1), 1);
        Checks.same("14: and can be had", x.open(0), 2);
    }

    private static void query() {
        ImpactShelf x = Shelves.opened(1);
        Checks.same("15: all hits", Checks.query(x, "Oats, rye rye; FIGS bean maize", 1, 40, 1000, EVER), 6);
        Checks.same("15: the tape is used up", x.look(4), 0);
        Checks.same("15: two hits", Checks.query(x, "oat fig", 1, 2, 1000, EVER), 2);
        Checks.same("15: no term of the index", Checks.query(x, "maize", 1, 2, 1000, EVER), 0);
        Checks.same("15: no word", x.query(1, 1, 1000, EVER), 0);
        Checks.same("15: rho 0", Checks.query(x, "bean", 1, 1, 0, EVER), 0);
        Checks.same("15: rho 1", Checks.query(x, "bean oat", 1, 40, 1, EVER), 1);
        Checks.same("15: rho 2 ends a segment that was begun", Checks.query(x, "bean oat", 1, 40, 2, EVER), 3);
        Checks.same("15: rho 3", Checks.query(x, "bean oat", 1, 40, 3, EVER), 3);
        Checks.same("15: rho 4, the last segment", Checks.query(x, "bean oat", 1, 40, 4, EVER), 4);
        long now = x.clock();
        Checks.same("15: until now", Checks.query(x, "bean oat", 1, 40, 99, now), 0);
        Checks.same("15: until one later", Checks.query(x, "bean oat", 1, 40, 99, now + 1), 1);
        Checks.same("15: until one later than that", Checks.query(x, "bean oat", 1, 40, 99, now + 3), 3);
        Checks.same("15: until long ago", Checks.query(x, "bean oat", 1, 40, 99, Long.MIN_VALUE), 0);
        x.open(0);
        x.publish();
        ImpactShelf y = new ImpactShelf();
        y.open(2);
        Checks.same("15: of the empty generation", Checks.query(y, "oat", 2, 40, 9, EVER), 0);
        Checks.same("15: that has no terms", y.last(0), 0);
    }

    private static void queryRefused() {
        ImpactShelf x = Checks.shelfOf("a b c d e f g h i");
        x.build(2, 0);
        x.publish();
        x.open(0);
        Checks.same("15: eight terms, one twice", Checks.query(x, "a b c d e f g h h zz", 0, 40, 99, EVER), 1);
        Checks.refuses("15: nine terms", Checks.ARGUMENT, () -> Checks.query(x, "a b c d e f g h i", 0, 40, 99, EVER));
        Checks.same("15: used up by a throw", x.look(4), 0);
        Checks.same("15: the latest is the one before", x.last(0), 8);
        Checks.same("15: its sum too", x.sum(0), 24);
        Checks.same("15: its hit too", x.hit(0, 1), 24);
        Checks.same("15: its plan too", x.plan(7, 0), 7);
        Checks.same("15: the clock too", x.clock(), 8);
        Checks.isTrue("15: all agrees", x.exhaustive());
        Checks.refuses("15: closed", Checks.STATE, () -> Checks.query(x, "a", 1, 40, 99, EVER));
        Checks.same("15: used up by that too", x.look(4), 0);
        Checks.refuses("15: closed, nine words", Checks.STATE, () -> Checks.query(x, "a b c d e f g h i", 1, 1, 0, 0));
        Checks.refuses("15: reader 4", Checks.ARGUMENT, () -> Checks.query(x, "a", 4, 40, 99, EVER));
        Checks.same("15: used up by this too", x.look(4), 0);
        Checks.refuses("15: reader -1", Checks.ARGUMENT, () -> Checks.query(x, "a", -1, 40, 99, EVER));
        Checks.refuses("15: k 0", Checks.ARGUMENT, () -> Checks.query(x, "a", 0, 0, 99, EVER));
        Checks.refuses("15: k 41", Checks.ARGUMENT, () -> Checks.query(x, "a", 0, 41, 99, EVER));
        Checks.refuses("15: rho -1", Checks.ARGUMENT, () -> Checks.query(x, "a", 0, 40, -1, EVER));
        Checks.refuses("15: closed and k 0", Checks.ARGUMENT, () -> Checks.query(x, "a", 1, 0, 99, EVER));
        Checks.refuses("15: closed and rho -1", Checks.ARGUMENT, () -> Checks.query(x, "a", 1, 1, -1, EVER));
        Checks.same("15: the latest is still the one before", x.last(0), 8);
    }

    private static void hit() {
        ImpactShelf x = Shelves.opened(0);
        Checks.refuses("16: ahead of any", Checks.NONE, () -> x.hit(0, 0));
        Checks.query(x, "oat fig rye bean", 0, 5, 1000, EVER);
        int[][] due = {{2, 16}, {3, 9}, {0, 5}, {1, 5}, {4, 4}};
        for (int i = 0; i < 5; i++) {
            Checks.same("16: document of hit " + i, x.hit(i, 0), due[i][0]);
            Checks.same("16: sum of hit " + i, x.hit(i, 1), due[i][1]);
        }
        Checks.refuses("16: beyond k", Checks.NONE, () -> x.hit(5, 0));
        Checks.refuses("16: hit -1", Checks.NONE, () -> x.hit(-1, 0));
        Checks.refuses("16: what 2", Checks.NONE, () -> x.hit(0, 2));
        Checks.refuses("16: what -1", Checks.NONE, () -> x.hit(0, -1));
        x.close(0);
        x.clear();
        x.publish();
        Checks.same("16: as it was behind close and publish", x.hit(4, 0), 4);
        x.open(0);
        Checks.query(x, "maize", 0, 5, 1000, EVER);
        Checks.refuses("16: none of the query before", Checks.NONE, () -> x.hit(0, 0));
    }

    private static void sum() {
        ImpactShelf x = Shelves.opened(0);
        Checks.same("17: ahead of any", x.sum(39), 0);
        Checks.query(x, "oat fig rye bean", 0, 1, 1000, EVER);
        int[] due = {5, 5, 16, 9, 4, 4, 0};
        for (int d = 0; d < due.length; d++) {
            Checks.same("17: the sum of " + d + ", hit or not", x.sum(d), due[d]);
        }
        Checks.refuses("17: document 40", Checks.ARGUMENT, () -> x.sum(40));
        Checks.refuses("17: document -1", Checks.ARGUMENT, () -> x.sum(-1));
        x.close(0);
        x.publish();
        Checks.same("17: as it was behind close and publish", x.sum(2), 16);
        x.open(0);
        Checks.query(x, "oat", 0, 1, 2, EVER);
        Checks.same("17: what was done alone", x.sum(0), 2);
        Checks.same("17: not what was left", x.sum(2), 0);
    }

    private static void lasts(String what, ImpactShelf x, int... due) {
        for (int i = 0; i < due.length; i++) {
            Checks.same("18: " + what + ", last " + i, x.last(i), due[i]);
        }
    }

    private static void last() {
        ImpactShelf x = Shelves.opened(0);
        Checks.query(x, "oat fig rye bean", 0, 1, 1000, EVER);
        lasts("all", x, 4, 8, 8, 11, 11, 0);
        Checks.query(x, "oat fig rye bean", 0, 1, 6, EVER);
        lasts("rho", x, 4, 8, 6, 7, 11, 1);
        Checks.query(x, "oat fig rye bean", 0, 1, 11, EVER);
        lasts("rho at the end", x, 4, 8, 8, 11, 11, 0);
        Checks.query(x, "oat fig rye bean", 0, 1, 1000, x.clock() + 2);
        lasts("until", x, 4, 8, 2, 2, 11, 2);
        Checks.query(x, "oat fig rye bean", 0, 1, 2, x.clock() + 2);
        lasts("rho and until", x, 4, 8, 2, 2, 11, 1);
        Checks.query(x, "rye", 0, 1, 2, x.clock() + 1);
        lasts("until, not yet rho", x, 1, 3, 1, 1, 3, 2);
        Checks.query(x, "rye", 0, 1, 0, 0);
        lasts("nothing done", x, 1, 3, 0, 0, 3, 1);
        Checks.query(x, "maize", 0, 1, 0, 0);
        lasts("no terms", x, 0, 0, 0, 0, 0, 0);
        Checks.query(x, "fig", 0, 1, 9, EVER);
        x.close(0);
        x.publish();
        lasts("behind close and publish", x, 1, 2, 2, 3, 3, 0);
        Checks.refuses("18: what 6", Checks.NONE, () -> x.last(6));
        Checks.refuses("18: what -1", Checks.NONE, () -> x.last(-1));
    }

    private static void plan() {
        ImpactShelf x = Shelves.opened(0);
        Checks.refuses("19: ahead of any", Checks.NONE, () -> x.plan(0, 0));
        Checks.query(x, "rye oat fig bean", 0, 1, 2, EVER);
        int[][] due = {{0, 15, 1}, {3, 5, 1}, {1, 4, 1}, {3, 4, 1}, {3, 3, 1}, {1, 3, 2}, {2, 2, 2}, {2, 1, 2}};
        for (int i = 0; i < due.length; i++) {
            for (int what = 0; what < 3; what++) {
                Checks.same("19: segment " + i + ", what " + what, x.plan(i, what), due[i][what]);
            }
        }
        Checks.refuses("19: segment 8", Checks.NONE, () -> x.plan(8, 0));
        Checks.refuses("19: segment -1", Checks.NONE, () -> x.plan(-1, 0));
        Checks.refuses("19: what 3", Checks.NONE, () -> x.plan(0, 3));
        Checks.refuses("19: what -1", Checks.NONE, () -> x.plan(0, -1));
        x.close(0);
        x.publish();
        Checks.same("19: as it was behind close and publish", x.plan(5, 2), 2);
        x.open(0);
        Checks.query(x, "rye zz", 0, 1, 2, EVER);
        Checks.same("19: numbers among the query's terms", x.plan(0, 0), 0);
        Checks.refuses("19: of the latest query alone", Checks.NONE, () -> x.plan(3, 0));
    }

    private static void exhaustive() {
        ImpactShelf x = Shelves.opened(0);
        Checks.isTrue("20: ahead of any", x.exhaustive());
        for (int rho = 0; rho < 12; rho++) {
            Checks.query(x, "rye oat fig bean", 0, 1, rho, EVER);
            Checks.isTrue("20: rho " + rho, x.exhaustive());
            Checks.query(x, "fig rye", 0, 1, 99, x.clock() + rho);
            Checks.isTrue("20: until " + rho, x.exhaustive());
        }
        x.close(0);
        x.publish();
        x.publish();
        Checks.isTrue("20: its generation is gone", x.exhaustive());
    }

    private static void look() {
        ImpactShelf x = Shelves.opened(0);
        x.feed(3, 0);
        Checks.same("21: the latest generation", x.look(0), 1);
        Checks.same("21: kept", x.look(1), 1);
        Checks.same("21: bytes of the file", x.look(2), 58);
        Checks.same("21: it is right", x.look(3), 1);
        Checks.same("21: bytes of the tape", x.look(4), 3);
        x.publish();
        Checks.same("21: the one held and the latest", x.look(1), 2);
        x.spoil(57, 1);
        Checks.same("21: it is not right", x.look(3), 0);
        Checks.refuses("21: what 5", Checks.NONE, () -> x.look(5));
        Checks.refuses("21: what -1", Checks.NONE, () -> x.look(-1));
        Checks.same("21: looking leaves generations as they are", x.index(0, 3), 8);
    }

    private static void holds() {
        ImpactShelf x = Shelves.opened(2);
        Checks.same("22: a generation", x.holds(2), 1);
        Checks.same("22: closed", x.holds(3), -1);
        x.publish();
        Checks.same("22: the same one behind publish", x.holds(2), 1);
        x.close(2);
        Checks.same("22: closed again", x.holds(2), -1);
        Checks.refuses("22: reader 4", Checks.ARGUMENT, () -> x.holds(4));
        Checks.refuses("22: reader -1", Checks.ARGUMENT, () -> x.holds(-1));
    }

    private static void index() {
        ImpactShelf x = Shelves.opened(2);
        int[] due = {6, 4, 11, 8};
        for (int what = 0; what < 4; what++) {
            Checks.same("23: what " + what, x.index(2, what), due[what]);
        }
        Checks.refuses("23: closed", Checks.STATE, () -> x.index(1, 0));
        Checks.refuses("23: closed, what 4", Checks.ARGUMENT, () -> x.index(1, 4));
        Checks.refuses("23: what 4", Checks.ARGUMENT, () -> x.index(2, 4));
        Checks.refuses("23: what -1", Checks.ARGUMENT, () -> x.index(2, -1));
        Checks.refuses("23: reader 4", Checks.ARGUMENT, () -> x.index(4, 0));
        Checks.refuses("23: reader -1", Checks.ARGUMENT, () -> x.index(-1, 0));
        ImpactShelf y = new ImpactShelf();
        y.open(0);
        for (int what = 0; what < 4; what++) {
            Checks.same("23: of the empty one", y.index(0, what), 0);
        }
    }

    private static void clock() {
        ImpactShelf x = Shelves.opened(0);
        Checks.query(x, "oat fig rye bean", 0, 1, 1000, EVER);
        Checks.same("24: a tick a posting", x.clock(), 11);
        Checks.query(x, "oat", 0, 1, 1, EVER);
        Checks.same("24: whole segments", x.clock(), 13);
        Checks.refuses("24: a throw", Checks.ARGUMENT, () -> Checks.query(x, "oat", 0, 0, 1, EVER));
        Checks.query(x, "oat", 0, 1, 0, EVER);
        x.exhaustive();
        x.close(0);
        Checks.same("24: nothing else ticks", x.clock(), 13);
    }
}
