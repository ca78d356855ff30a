/** The boundary cases that the document names of queries, what they leave, and the clock (promises 15 to 20 and 24). */
public final class QueryBoundaryTest {
    private static final long EVER = Shelves.EVER;

    /** Two bits, 4 documents: a 3 in 0 and 1, 1 in 2; b 3 in 0; c 3 in 1, 2 in 0 and 3; d 2 in 2 and 3. */
    private static final String EQUALS = "73,109,2,0,4,4,1,97,2,3,2,128,128,1,1,130,1,98,1,3,1,128"
        + ",1,99,2,3,1,129,2,2,128,130,1,100,1,2,2,130,128";

    private QueryBoundaryTest() {
    }

    public static void main(String[] args) {
        aheadOfAny();
        queryOfNoReader();
        queryOfNoK();
        queryOfNoRho();
        queryOfMoreThan8Terms();
        queryOf8Terms();
        queryOfAClosedReader();
        queryUsesUpTheTape();
        queryWithoutTerms();
        queryOfAFullTape();
        rhoAtSegments();
        untilAtTheClock();
        untilFarOff();
        whyItEnded();
        planOfEquals();
        planOfManySegments();
        hitsUpToK();
        hitsInOrder();
        hitOfNone();
        sumOfNone();
        lastOfAnotherWhat();
        planOfNone();
        exhaustiveInPart();
        behindWhatThrows();
        behindCloseAndPublish();
        clockOfPostings();
        Checks.end("QueryBoundaryTest");
    }

    private static ImpactShelf nineTerms() {
        ImpactShelf x = Checks.shelfOf("a b c d e f g h i", "a");
        x.build(2, 0);
        x.publish();
        x.open(0);
        Checks.query(x, "b c", 0, 2, 600, EVER);
        return x;
    }

    private static void aheadOfAny() {
        String nothing = "last 0 0 0 0 0 0; hit throws NoSuchElementException; sums" + " 0".repeat(40)
            + "; true; clock 0";
        Checks.same("ahead of any: a new object", Twin.latestQuery(new ImpactShelf()), nothing);
        Checks.same("ahead of any: one with readers", Twin.latestQuery(Shelves.opened(0)), nothing);
        ImpactShelf x = Shelves.opened(0);
        Checks.refuses("ahead of any: a query that throws", Checks.ARGUMENT, () -> Checks.query(x, "oat", 0, 0, 1, EVER));
        Checks.same("ahead of any: behind a query that threw", Twin.latestQuery(x), nothing);
        for (int what = -1; what < 3; what++) {
            int at = what;
            Twin.refuses("ahead of any: hit, what " + what, Checks.NONE, ImpactShelf::new, y -> y.hit(0, at));
            Twin.refuses("ahead of any: plan, what " + what, Checks.NONE, ImpactShelf::new, y -> y.plan(0, at));
        }
        Twin.answers("20: ahead of any", true, ImpactShelf::new, ImpactShelf::exhaustive);
        Twin.answers("24: 0 at first", 0L, ImpactShelf::new, ImpactShelf::clock);
    }

    private static void queryOfNoReader() {
        for (int reader : new int[] {-1, 4, 256, Integer.MAX_VALUE, Integer.MIN_VALUE}) {
            Twin.refusesText("15: reader " + reader, Checks.ARGUMENT, Shelves::busy, "oat",
                x -> x.query(reader, 40, 600, EVER));
        }
        for (int reader = 0; reader < 4; reader++) {
            Checks.same("15: reader " + reader, Checks.query(Shelves.opened(reader), "oat", reader, 40, 600, EVER), 4);
        }
    }

    private static void queryOfNoK() {
        for (int k : new int[] {0, 41, -1, 257, Integer.MAX_VALUE, Integer.MIN_VALUE}) {
            Twin.refusesText("15: k " + k, Checks.ARGUMENT, Shelves::busy, "oat", x -> x.query(0, k, 600, EVER));
            Twin.refusesText("15: k " + k + " is told ahead of closed", Checks.ARGUMENT, Shelves::busy, "oat",
                x -> x.query(2, k, 600, EVER));
        }
        Checks.same("15: k 1", Checks.query(Shelves.busy(), "oat", 0, 1, 600, EVER), 1);
        Checks.same("15: k 40", Checks.query(Shelves.busy(), "oat", 0, 40, 600, EVER), 4);
    }

    private static void queryOfNoRho() {
        for (int rho : new int[] {-1, -600, Integer.MIN_VALUE}) {
            Twin.refusesText("15: rho " + rho, Checks.ARGUMENT, Shelves::busy, "oat", x -> x.query(0, 40, rho, EVER));
            Twin.refusesText("15: rho " + rho + " is told ahead of closed", Checks.ARGUMENT, Shelves::busy, "oat",
                x -> x.query(3, 40, rho, EVER));
        }
        Checks.same("15: rho 0", Checks.query(Shelves.busy(), "oat", 0, 40, 0, EVER), 0);
        Checks.same("15: rho 1", Checks.query(Shelves.busy(), "oat", 0, 40, 1, EVER), 2);
        Checks.same("15: the greatest rho", Checks.query(Shelves.busy(), "oat", 0, 40, Integer.MAX_VALUE, EVER), 4);
    }

    private static void queryOfMoreThan8Terms() {
        String nine = "a b c d e f g h i";
        Twin.refusesText("15: nine terms", Checks.ARGUMENT, QueryBoundaryTest::nineTerms, nine,
            x -> x.query(0, 40, 600, EVER));
        Twin.refusesText("15: nine terms, others between", Checks.ARGUMENT, QueryBoundaryTest::nineTerms,
            "z i zz h g aa f f e d c ab b A", x -> x.query(0, 40, 0, 0));
        Twin.refusesText("15: nine terms of a closed reader", Checks.STATE, QueryBoundaryTest::nineTerms, nine,
            x -> x.query(1, 40, 600, EVER));
        Twin.refusesText("15: nine terms, a closed reader, k 0", Checks.ARGUMENT, QueryBoundaryTest::nineTerms, nine,
            x -> x.query(1, 0, 600, EVER));
        ImpactShelf x = new ImpactShelf();
        x.open(0);
        Checks.same("15: nine words of generation 0", Checks.query(x, nine, 0, 40, 600, EVER), 0);
        Checks.same("15: none of them is its term", x.last(0), 0);
        ImpactShelf y = Shelves.opened(0);
        Checks.same("15: many words, four terms", Checks.query(y, nine + " oat fig rye bean j k", 0, 40, 600, EVER), 6);
        Checks.same("15: four", y.last(0), 4);
    }

    private static void queryOf8Terms() {
        ImpactShelf x = nineTerms();
        Checks.same("15: eight terms", Checks.query(x, "b c d e f g h i", 0, 40, 600, EVER), 1);
        Checks.same("15: these eight", x.last(0), 8);
        Checks.same("15: all in the plan", x.last(1), 8);
        Checks.same("15: the last of them", x.plan(7, 0), 7);
        Checks.same("15: seven of them and all of that twice", Checks.query(x, "a b c d e f g a b c d e f g z", 0, 40,
            600, EVER), 2);
        Checks.same("15: each once", x.last(0), 7);
        Checks.same("15: a sum of each once", x.sum(0), 6 * 3 + 1);
    }

    private static void queryOfAClosedReader() {
        for (int reader = 2; reader < 4; reader++) {
            int at = reader;
            Twin.refusesText("15: closed, " + reader, Checks.STATE, Shelves::busy, "oat", x -> x.query(at, 40, 600, EVER));
            Twin.refusesText("15: closed, without a word, " + reader, Checks.STATE, Shelves::busy, "",
                x -> x.query(at, 1, 0, Long.MIN_VALUE));
        }
        Twin.refusesText("15: never open", Checks.STATE, ImpactShelf::new, "oat", x -> x.query(0, 40, 600, EVER));
        ImpactShelf x = Shelves.busy();
        x.close(1);
        Checks.refuses("15: closed again", Checks.STATE, () -> Checks.query(x, "oat", 1, 40, 600, EVER));
    }

    private static void queryUsesUpTheTape() {
        ImpactShelf x = Shelves.opened(0);
        Checks.query(x, "oat", 0, 40, 600, EVER);
        Checks.same("15: used up", x.look(4), 0);
        Checks.refuses("15: used up and refused", Checks.STATE, () -> Checks.query(x, "rye", 1, 40, 600, EVER));
        Checks.same("15: used up by a throw", x.look(4), 0);
        Checks.refuses("15: no reader", Checks.ARGUMENT, () -> Checks.query(x, "rye", 4, 40, 600, EVER));
        Checks.same("15: used up by that throw", x.look(4), 0);
        Checks.same("15: nothing is left for another", x.query(0, 40, 600, EVER), 0);
    }

    private static void queryWithoutTerms() {
        String[] texts = {"", "12 - 3", "maize", "oa oatx ry"};
        for (String text : texts) {
            ImpactShelf x = Shelves.opened(0);
            Checks.query(x, "oat", 0, 40, 600, EVER);
            Checks.same("15: no term, " + text, Checks.query(x, text, 0, 40, 0, Long.MIN_VALUE), 0);
            Checks.same("15: nothing is left of the query before, " + text, Twin.latestQuery(x),
                "last 0 0 0 0 0 0; hit throws NoSuchElementException; sums" + " 0".repeat(40) + "; true; clock 4");
        }
    }

    // As many words as a tape can have of which each is another one, and the index has the first and the last.
    private static void queryOfAFullTape() {
        StringBuilder all = new StringBuilder();
        for (char letter = 'a'; letter <= 'z'; letter++) {
            all.append(letter).append(' ');
        }
        all.append(Shelves.twoLetterWords(0, 26 * 26));
        for (int i = 0; all.length() < 2996; i++) {
            all.append('x').append((char) ('a' + i / 26)).append((char) ('a' + i % 26)).append(' ');
        }
        all.append(" zzz");
        Checks.same("15: 3000 bytes", all.length(), 3000);
        ImpactShelf x = Checks.shelfOf("a", "zzz");
        x.build(8, 0);
        x.publish();
        x.open(0);
        Checks.same("15: a full tape", Checks.query(x, all.toString(), 0, 40, 600, EVER), 2);
        Checks.same("15: its last word", x.sum(1), 255);
        Checks.same("15: it is used up", x.look(4), 0);
    }

    private static void lasts(String what, ImpactShelf x, int... due) {
        for (int i = 0; i < due.length; i++) {
            Checks.same("18: " + what + ", last " + i, x.last(i), due[i]);
        }
    }

    // The plan of all four terms has segments of 1, 1, 1, 1, 1, 2, 2, 2 documents.
    private static void rhoAtSegments() {
        int[] done = {0, 1, 2, 3, 4, 5, 6, 6, 7, 7, 8, 8, 8};
        int[] postings = {0, 1, 2, 3, 4, 5, 7, 7, 9, 9, 11, 11, 11};
        for (int rho = 0; rho < done.length; rho++) {
            ImpactShelf x = Shelves.opened(0);
            Checks.query(x, "oat fig rye bean", 0, 40, rho, EVER);
            lasts("rho " + rho, x, 4, 8, done[rho], postings[rho], 11, done[rho] == 8 ? 0 : 1);
            Checks.same("24: rho " + rho, x.clock(), postings[rho]);
        }
        ImpactShelf x = Shelves.opened(0);
        Checks.query(x, "oat", 0, 40, 1, EVER);
        lasts("rho within the first segment", x, 1, 2, 1, 2, 4, 1);
        Checks.query(x, "oat", 0, 40, 2, EVER);
        lasts("rho at its end", x, 1, 2, 1, 2, 4, 1);
        Checks.query(x, "oat", 0, 40, 3, EVER);
        lasts("rho behind its end", x, 1, 2, 2, 4, 4, 0);
    }

    private static void untilAtTheClock() {
        int[] done = {0, 0, 1, 2, 3, 4, 5, 6, 6, 7, 7, 8, 8, 8};
        int[] postings = {0, 0, 1, 2, 3, 4, 5, 7, 7, 9, 9, 11, 11, 11};
        for (int i = 0; i < done.length; i++) {
            ImpactShelf x = Shelves.opened(0);
            Checks.query(x, "oat fig rye bean", 0, 40, 600, i - 1);
            lasts("until " + (i - 1) + " from 0 on", x, 4, 8, done[i], postings[i], 11, done[i] == 8 ? 0 : 2);
            Checks.same("24: until " + (i - 1), x.clock(), postings[i]);
            ImpactShelf y = Shelves.opened(0);
            Checks.query(y, "oat", 0, 40, 600, EVER);
            Checks.query(y, "oat fig rye bean", 0, 40, 600, 4 + i - 1);
            lasts("until " + (i - 1) + " from 4 on", y, 4, 8, done[i], postings[i], 11, done[i] == 8 ? 0 : 2);
            Checks.same("24: until " + (i - 1) + " from 4 on", y.clock(), 4 + postings[i]);
        }
    }

    private static void untilFarOff() {
        long[] past = {Long.MIN_VALUE, Long.MIN_VALUE + 1, -1L << 32, -1, 0, 1, 3, 4};
        long[] future = {Long.MAX_VALUE, Long.MAX_VALUE - 1, 1L << 32, 1L << 31, 4 + 11, 4 + 10};
        for (long until : past) {
            ImpactShelf x = Shelves.opened(0);
            Checks.query(x, "oat", 0, 40, 600, EVER);
            Checks.same("15: until " + until, Checks.query(x, "oat fig rye bean", 0, 40, 600, until), 0);
            lasts("until " + until, x, 4, 8, 0, 0, 11, 2);
        }
        for (long until : future) {
            ImpactShelf x = Shelves.opened(0);
            Checks.query(x, "oat", 0, 40, 600, EVER);
            Checks.same("15: until " + until, Checks.query(x, "oat fig rye bean", 0, 40, 600, until), 6);
            lasts("until " + until, x, 4, 8, 8, 11, 11, 0);
        }
    }

    private static void whyItEnded() {
        ImpactShelf x = Shelves.opened(0);
        Checks.query(x, "bean", 0, 40, 1, 1);
        lasts("nothing left, at rho and until", x, 1, 1, 1, 1, 1, 0);
        Checks.query(x, "bean", 0, 40, 0, 0);
        lasts("rho and until at once", x, 1, 1, 0, 0, 1, 1);
        Checks.query(x, "rye", 0, 40, 2, 3);
        lasts("rho and until at once, behind two", x, 1, 3, 2, 2, 3, 1);
        Checks.query(x, "rye", 0, 40, 2, 4);
        lasts("until first", x, 1, 3, 1, 1, 3, 2);
        Checks.query(x, "rye", 0, 40, 1, 100);
        lasts("rho first", x, 1, 3, 1, 1, 3, 1);
        Checks.query(x, "maize", 0, 40, 0, 0);
        lasts("nothing there, at rho and until", x, 0, 0, 0, 0, 0, 0);
    }

    private static void plans(String what, ImpactShelf x, int[]... due) {
        Checks.same("19: " + what + ", segments", x.last(1), due.length);
        for (int i = 0; i < due.length; i++) {
            for (int j = 0; j < 3; j++) {
                Checks.same("19: " + what + ", plan " + i + " " + j, x.plan(i, j), due[i][j]);
            }
        }
    }

    private static void planOfEquals() {
        ImpactShelf x = Shelves.ofGeneration(EQUALS);
        Checks.query(x, "d c b a", 0, 40, 600, EVER);
        plans("by impacts, documents, terms", x, new int[] {1, 3, 1}, new int[] {2, 3, 1}, new int[] {0, 3, 2},
            new int[] {2, 2, 2}, new int[] {3, 2, 2}, new int[] {0, 1, 1});
        Checks.query(x, "d c", 0, 40, 600, EVER);
        plans("terms by their numbers in the query", x, new int[] {0, 3, 1}, new int[] {0, 2, 2}, new int[] {1, 2, 2});
        Checks.query(x, "d a", 0, 40, 0, EVER);
        plans("also those not done", x, new int[] {0, 3, 2}, new int[] {1, 2, 2}, new int[] {0, 1, 1});
    }

    /** Eight terms without the one that bears the document's number, and one of them the oftener the later it is. */
    private static String eightWords(int document) {
        StringBuilder all = new StringBuilder();
        for (int t = 0; t < 8; t++) {
            int times = t == document ? 0 : t == (document + 1) % 8 ? 1 + document : 1;
            all.append(((char) ('a' + t) + " ").repeat(times));
        }
        return all.toString();
    }

    private static void planOfManySegments() {
        ImpactShelf x = new ImpactShelf();
        for (int d = 0; d < 40; d++) {
            Checks.add(x, eightWords(d));
        }
        x.build(8, 1);
        x.publish();
        x.open(0);
        Checks.same("19: hits of many segments", Checks.query(x, "a b c d e f g h", 0, 40, 600, EVER), 40);
        Checks.same("19: postings of many segments", x.last(4), 312);
        Checks.same("19: all done", x.last(3), 312);
        Checks.same("19: each a segment", x.last(1), 312);
        Checks.isTrue("20: of many segments", x.exhaustive());
        for (int i = 1; i < 312; i += 10) {
            int impact = x.plan(i, 1);
            int before = x.plan(i - 1, 1);
            Checks.isTrue("19: falling impacts, of equal ones by terms, at " + i,
                impact < before || impact == before && x.plan(i, 0) > x.plan(i - 1, 0));
        }
        Checks.same("19: the last one", x.plan(311, 1), 1);
        Checks.refuses("19: none behind it", Checks.NONE, () -> x.plan(312, 0));
    }

    private static ImpactShelf forty() {
        ImpactShelf x = Shelves.documents(40);
        x.build(8, 2);
        x.publish();
        x.open(0);
        return x;
    }

    private static void hitsUpToK() {
        int[][] due = {{1, 1}, {2, 2}, {39, 39}, {40, 40}};
        for (int[] pair : due) {
            ImpactShelf x = forty();
            int k = pair[0];
            Checks.same("15: k " + k + " of 40", Checks.query(x, "a", 0, k, 600, EVER), pair[1]);
            Checks.same("16: the last hit of " + k, x.hit(k - 1, 0), k - 1);
            Checks.refuses("16: none behind it", Checks.NONE, () -> x.hit(k, 0));
            Checks.same("17: sums also of others, k " + k, x.sum(39), 255);
        }
        for (int k = 1; k < 9; k++) {
            Checks.same("15: k " + k + " of 6", Checks.query(Shelves.opened(0), "oat fig rye bean", 0, k, 600, EVER),
                Math.min(k, 6));
        }
    }

    private static void hitsInOrder() {
        ImpactShelf x = Shelves.ofGeneration(EQUALS);
        // Sums: a and b: 6, 3, 1, 0; c and d: 2, 3, 2, 4; a and d: 3, 3, 3, 2.
        int[][] due = {{0, 1, 2}, {3, 1, 0, 2}, {0, 1, 2, 3}};
        String[] texts = {"a b", "c d", "a d"};
        for (int q = 0; q < texts.length; q++) {
            Checks.same("16: hits of " + texts[q], Checks.query(x, texts[q], 0, 40, 600, EVER), due[q].length);
            for (int i = 0; i < due[q].length; i++) {
                Checks.same("16: hit " + i + " of " + texts[q], x.hit(i, 0), due[q][i]);
                Checks.same("16: its sum, hit " + i + " of " + texts[q], x.hit(i, 1), x.sum(due[q][i]));
            }
        }
        Checks.query(x, "c d", 0, 2, 600, EVER);
        Checks.same("16: the greatest of all, though it is the last", x.hit(0, 0), 3);
        Checks.same("16: the next", x.hit(1, 0), 1);
    }

    private static void hitOfNone() {
        ImpactShelf x = Shelves.busy();
        Checks.same("16: the first document", x.hit(0, 0), 2);
        Checks.same("16: the first sum", x.hit(0, 1), 15);
        Checks.same("16: the last document", x.hit(2, 0), 5);
        for (int i : new int[] {-1, 3, 40, Integer.MAX_VALUE, Integer.MIN_VALUE}) {
            Twin.refuses("16: hit " + i, Checks.NONE, Shelves::busyWithTape, y -> y.hit(i, 0));
        }
        for (int what : new int[] {-1, 2, 256, Integer.MAX_VALUE, Integer.MIN_VALUE}) {
            Twin.refuses("16: what " + what, Checks.NONE, Shelves::busyWithTape, y -> y.hit(0, what));
            Twin.refuses("16: hit and what " + what, Checks.NONE, Shelves::busyWithTape, y -> y.hit(what, what));
        }
        ImpactShelf none = Shelves.opened(0);
        Checks.query(none, "oat", 0, 40, 0, EVER);
        Checks.refuses("16: of a query that did nothing", Checks.NONE, () -> none.hit(0, 0));
    }

    private static void sumOfNone() {
        for (int document : new int[] {-1, 40, 256, Integer.MAX_VALUE, Integer.MIN_VALUE}) {
            Twin.refuses("17: document " + document, Checks.ARGUMENT, Shelves::busyWithTape, x -> x.sum(document));
            Twin.refuses("17: ahead of any, document " + document, Checks.ARGUMENT, ImpactShelf::new,
                x -> x.sum(document));
        }
        ImpactShelf x = forty();
        Checks.same("17: ahead of any, the first", x.sum(0), 0);
        Checks.same("17: ahead of any, the last", x.sum(39), 0);
        Checks.query(x, "a", 0, 1, 600, EVER);
        Checks.same("17: the first", x.sum(0), 255);
        Checks.same("17: the last", x.sum(39), 255);
        ImpactShelf y = Shelves.opened(0);
        Checks.query(y, "oat fig rye bean", 0, 40, 600, EVER);
        Checks.same("17: the last of the index", y.sum(5), 4);
        Checks.same("17: behind the last of the index", y.sum(6), 0);
    }

    private static void lastOfAnotherWhat() {
        for (int what : new int[] {-1, 6, 256, Integer.MAX_VALUE, Integer.MIN_VALUE}) {
            Twin.refuses("18: what " + what, Checks.NONE, Shelves::busyWithTape, x -> x.last(what));
            Twin.refuses("18: ahead of any, what " + what, Checks.NONE, ImpactShelf::new, x -> x.last(what));
        }
        int[] due = {4, 8, 6, 7, 11, 1};
        for (int what = 0; what < 6; what++) {
            int at = what;
            Twin.answers("18: ahead of any, what " + what, 0, ImpactShelf::new, x -> x.last(at));
            Twin.answers("18: what " + what, due[what], Shelves::busyWithTape, x -> x.last(at));
        }
    }

    private static void planOfNone() {
        for (int i : new int[] {-1, 8, 256, Integer.MAX_VALUE, Integer.MIN_VALUE}) {
            Twin.refuses("19: segment " + i, Checks.NONE, Shelves::busyWithTape, x -> x.plan(i, 0));
        }
        for (int what : new int[] {-1, 3, 256, Integer.MAX_VALUE, Integer.MIN_VALUE}) {
            Twin.refuses("19: what " + what, Checks.NONE, Shelves::busyWithTape, x -> x.plan(0, what));
            Twin.refuses("19: segment and what " + what, Checks.NONE, Shelves::busyWithTape, x -> x.plan(what, what));
        }
        ImpactShelf x = Shelves.busy();
        Checks.same("19: the first", x.plan(0, 1), 15);
        Checks.same("19: the last, which was not done", x.plan(7, 1), 1);
        Checks.query(x, "maize", 0, 40, 600, EVER);
        Checks.refuses("19: none of a query without terms", Checks.NONE, () -> x.plan(0, 0));
    }

    private static void exhaustiveInPart() {
        for (int rho = 0; rho < 12; rho++) {
            ImpactShelf x = Shelves.ofGeneration(EQUALS);
            Checks.query(x, "a b c d", 0, 40, rho, EVER);
            int at = rho;
            Checks.isTrue("20: rho " + rho, x.exhaustive());
            Twin.answers("20: it looks alone, rho " + rho, true, () -> inPart(at), ImpactShelf::exhaustive);
        }
        Checks.isTrue("20: none done", inPart(0).exhaustive());
        Checks.isTrue("20: done in part", Shelves.busy().exhaustive());
    }

    private static ImpactShelf inPart(int rho) {
        ImpactShelf x = Shelves.opened(0);
        Checks.query(x, "oat fig rye bean", 0, 2, rho, EVER);
        x.close(0);
        x.publish();
        return x;
    }

    private static void behindWhatThrows() {
        ImpactShelf x = Shelves.busyWithTape();
        String before = Twin.latestQuery(x);
        Checks.refuses("behind a throw: reader", Checks.ARGUMENT, () -> Checks.query(x, "oat", 4, 40, 600, EVER));
        Checks.refuses("behind a throw: k", Checks.ARGUMENT, () -> Checks.query(x, "oat", 0, 41, 600, EVER));
        Checks.refuses("behind a throw: rho", Checks.ARGUMENT, () -> Checks.query(x, "oat", 0, 40, -1, EVER));
        Checks.refuses("behind a throw: closed", Checks.STATE, () -> Checks.query(x, "oat", 3, 40, 600, EVER));
        Checks.same("behind a throw: as it was", Twin.latestQuery(x), before);
        ImpactShelf y = nineTerms();
        String first = Twin.latestQuery(y);
        Checks.refuses("behind nine terms", Checks.ARGUMENT, () -> Checks.query(y, "a b c d e f g h i", 0, 40, 600, EVER));
        Checks.same("behind nine terms: as it was", Twin.latestQuery(y), first);
        Checks.same("behind nine terms: another", Checks.query(y, "a", 0, 40, 600, EVER), 2);
        Checks.isFalse("behind that: as it is", Twin.latestQuery(y).equals(first));
    }

    private static void behindCloseAndPublish() {
        ImpactShelf x = Shelves.busy();
        String before = Twin.latestQuery(x);
        x.publish();
        Checks.same("behind publish()", Twin.latestQuery(x), before);
        x.close(0);
        Checks.same("behind close()", Twin.latestQuery(x), before);
        x.publish();
        x.open(0);
        x.close(1);
        x.publish();
        x.clear();
        x.cut(0);
        Checks.same("behind all of them", Twin.latestQuery(x), before);
        ImpactShelf y = Shelves.opened(0);
        Checks.query(y, "fig rye", 0, 2, 3, EVER);
        String other = Twin.latestQuery(y);
        y.close(0);
        y.spoil(16, 1);
        y.clear();
        Checks.add(y, "fig rye");
        y.build(8, 2);
        y.publish();
        y.publish();
        y.open(0);
        Checks.same("behind its generation's end", Twin.latestQuery(y), other);
    }

    private static void clockOfPostings() {
        ImpactShelf x = Shelves.opened(0);
        Checks.same("24: ahead of any", x.clock(), 0);
        Checks.query(x, "maize", 0, 40, 600, EVER);
        Checks.same("24: no postings", x.clock(), 0);
        Checks.query(x, "bean", 0, 40, 600, EVER);
        Checks.same("24: one posting", x.clock(), 1);
        Checks.query(x, "oat fig rye bean", 0, 1, 600, EVER);
        Checks.same("24: eleven more, though one hit", x.clock(), 12);
        Checks.query(x, "oat fig rye bean", 0, 40, 0, EVER);
        Checks.query(x, "oat fig rye bean", 0, 40, 600, 12);
        Checks.same("24: none by rho and until", x.clock(), 12);
        Checks.refuses("24: refused", Checks.ARGUMENT, () -> Checks.query(x, "oat", 0, 0, 600, EVER));
        x.exhaustive();
        x.publish();
        x.close(0);
        Checks.same("24: nothing else ticks", x.clock(), 12);
        Twin.answers("24: it is looked at alone", 7L, Shelves::busyWithTape, ImpactShelf::clock);
    }
}
