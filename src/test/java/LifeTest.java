/** An object is used for at most 512 calls: up to the last of them each answer is the one that is due. */
public final class LifeTest {
    private static final int CALLS = 512;

    private LifeTest() {
    }

    public static void main(String[] args) {
        ofFeeds();
        ofRefusals();
        ofDocuments();
        ofFiles();
        ofGenerations();
        ofReaders();
        ofQueries();
        Checks.end("LifeTest");
    }

    private static void ofFeeds() {
        ImpactShelf x = new ImpactShelf();
        for (int call = 1; call <= CALLS; call++) {
            Checks.same("512 feeds: call " + call, x.feed(1, 'a'), call);
        }
    }

    /** More than 400 calls that throw, and then all is as it is of a new object. */
    private static void ofRefusals() {
        Twin.refuses("512 refusals", Checks.NONE, ImpactShelf::new, x -> {
            for (int i = 0; i < 25; i++) {
                Checks.refuses("512 refusals: feed", Checks.ARGUMENT, () -> x.feed(0, 0));
                Checks.refuses("512 refusals: add", Checks.ARGUMENT, x::add);
                Checks.refuses("512 refusals: count", Checks.NONE, () -> x.count(4));
                Checks.refuses("512 refusals: score", Checks.ARGUMENT, () -> x.score(0));
                Checks.refuses("512 refusals: build", Checks.STATE, () -> x.build(2, 0));
                Checks.refuses("512 refusals: file", Checks.NONE, () -> x.file(0));
                Checks.refuses("512 refusals: spoil", Checks.NONE, () -> x.spoil(0, 0));
                Checks.refuses("512 refusals: publish", Checks.ARGUMENT, x::publish);
                Checks.refuses("512 refusals: open", Checks.ARGUMENT, () -> x.open(4));
                Checks.refuses("512 refusals: close", Checks.ARGUMENT, () -> x.close(4));
                Checks.refuses("512 refusals: query", Checks.STATE, () -> x.query(0, 1, 1, 1));
                Checks.refuses("512 refusals: hit", Checks.NONE, () -> x.hit(0, 0));
                Checks.refuses("512 refusals: sum", Checks.ARGUMENT, () -> x.sum(40));
                Checks.refuses("512 refusals: plan", Checks.NONE, () -> x.plan(0, 0));
                Checks.refuses("512 refusals: index", Checks.STATE, () -> x.index(0, 0));
            }
            return x.last(6);
        });
    }

    private static void ofDocuments() {
        ImpactShelf x = new ImpactShelf();
        for (int i = 0; i < 6; i++) {
            for (int d = 0; d < 40; d++) {
                Checks.same("512 calls: document " + d + " of collection " + i, Checks.add(x, "a"), d);
            }
            Checks.same("512 calls: a collection is cleared", x.clear(), 40);
        }
        for (int d = 0; d < 12; d++) {
            Checks.same("512 calls: document " + d + " of the last one", Checks.add(x, "b"), d);
        }
        Checks.same("512 calls: call 511", x.count(0), 12);
        Checks.same("512 calls: call 512", x.count(1), 1);
    }

    private static void ofFiles() {
        ImpactShelf x = Checks.shelfOf("fig");
        for (int call = 3; call < CALLS; call += 3) {
            Checks.same("512 calls: a file", x.build(2 + call % 7, call % 3), call % 3 == 1 ? 25 : 18);
            Checks.isTrue("512 calls: is cut", x.cut(10));
            Checks.same("512 calls: is not right", x.look(3), 0);
        }
    }

    private static void ofGenerations() {
        ImpactShelf x = Checks.shelfOf("fig");
        x.build(2, 0);
        for (int g = 1; g <= CALLS - 4; g++) {
            Checks.same("512 calls: generation " + g, x.publish(), g);
        }
        Checks.same("512 calls: call 512", x.look(1), 1);
    }

    private static void ofReaders() {
        ImpactShelf x = Checks.shelfOf("fig");
        x.build(2, 0);
        for (int g = 1; g <= 169; g++) {
            Checks.same("512 calls: generation " + g, x.publish(), g);
            Checks.same("512 calls: is opened", x.open(g % 2), g);
            Checks.same("512 calls: the one before is closed", x.close((g + 1) % 2), g > 1);
        }
        Checks.same("512 calls: call 511", x.look(1), 1);
        Checks.same("512 calls: call 512", x.holds(1), 169);
    }

    private static void ofQueries() {
        ImpactShelf x = new ImpactShelf();
        for (int d = 0; d < 40; d++) {
            Checks.add(x, "a b c d e f g h");
        }
        x.build(8, 0);
        x.publish();
        x.open(0);
        long due = 0;
        for (int call = 123; call + 3 < CALLS; call += 3) {
            Checks.same("512 calls: a query", Checks.query(x, "a b c d e f g h", 0, 40, 320, Shelves.EVER), 40);
            due += 320;
        }
        Checks.same("512 calls: all their postings", x.clock(), due);
        Checks.same("512 calls: they are many", due, 129 * 320);
    }
}
