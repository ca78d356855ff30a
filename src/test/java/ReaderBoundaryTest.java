import java.util.function.Supplier;

/** The boundary cases that the document names of generations and readers (promises 12 to 14 and 21 to 23). */
public final class ReaderBoundaryTest {
    private static final int[] NO_READERS = {-1, 4, 256, Integer.MAX_VALUE, Integer.MIN_VALUE};

    private ReaderBoundaryTest() {
    }

    public static void main(String[] args) {
        generation0();
        generation0IsNoneOfThree();
        publishOfWhatIsNotRight();
        publishOfAFourth();
        publishWhereTheLatestGoes();
        publishOfAFileAlone();
        publishBesideOneThatWent();
        generation0StaysEmpty();
        nothingIsLeftOfALargerOne();
        keptByTheLastReader();
        latestIsKeptWithoutAReader();
        openOfNoReader();
        openOfOneThatHolds();
        openAtTheEnds();
        closeOfNoReader();
        closeOfOneThatIsClosed();
        lookOfANewObject();
        lookOfAnotherWhat();
        lookAtTheEnds();
        holdsOfNoReader();
        holdsAtTheEnds();
        indexOfNone();
        indexOfOneThatIsClosed();
        indexOfGeneration0();
        indexOfTheLargest();
        Checks.end("ReaderBoundaryTest");
    }

    /** A file of one document, and nothing else. */
    private static ImpactShelf withFile() {
        ImpactShelf x = Checks.shelfOf("fig");
        x.build(8, 0);
        return x;
    }

    /** As many generations, the g'th held by reader g - 1. */
    private static ImpactShelf held(int generations) {
        ImpactShelf x = withFile();
        for (int g = 1; g <= generations; g++) {
            x.publish();
            x.open(g - 1);
        }
        Checks.tape(x, "figs rye");
        return x;
    }

    /** Three generations, all held, and a file that is not right. */
    private static ImpactShelf heldAndSpoiled() {
        ImpactShelf x = held(3);
        x.spoil(0, 1);
        return x;
    }

    private static void generation0() {
        ImpactShelf x = new ImpactShelf();
        Checks.same("generation 0: the latest at first", x.look(0), 0);
        Checks.same("generation 0: is none that is kept", x.look(1), 0);
        Checks.same("generation 0: can be held", x.open(0), 0);
        Checks.same("generation 0: is held", x.holds(0), 0);
        Checks.same("generation 0: a query of it", Checks.query(x, "fig", 0, 40, 600, Shelves.EVER), 0);
        Checks.isTrue("generation 0: is closed", x.close(0));
        Checks.same("generation 0: is not held", x.holds(0), -1);
        ImpactShelf y = withFile();
        y.open(0);
        y.publish();
        Checks.same("generation 0: its reader holds it behind publish()", y.holds(0), 0);
        Checks.same("generation 0: which still is empty", y.index(0, 0), 0);
        Checks.isTrue("generation 0: it is closed", y.close(0));
        Checks.same("generation 0: and is not the latest any more", y.open(0), 1);
    }

    private static void generation0IsNoneOfThree() {
        ImpactShelf x = withFile();
        x.open(3);
        for (int g = 1; g <= 3; g++) {
            Checks.same("12: beside generation 0", x.publish(), g);
            Checks.same("12: kept beside generation 0", x.look(1), g);
            x.open(g - 1);
        }
        Checks.refuses("12: three beside generation 0", Checks.STATE, x::publish);
        Checks.isTrue("12: that is closed", x.close(3));
        Checks.refuses("12: it made no room", Checks.STATE, x::publish);
    }

    private static void publishOfWhatIsNotRight() {
        Twin.refuses("12: no file", Checks.ARGUMENT, ImpactShelf::new, ImpactShelf::publish);
        Twin.refuses("12: not right", Checks.ARGUMENT, ReaderBoundaryTest::busyAndSpoiled, ImpactShelf::publish);
        Twin.refuses("12: not right is told first", Checks.ARGUMENT, ReaderBoundaryTest::heldAndSpoiled,
            ImpactShelf::publish);
        ImpactShelf x = heldAndSpoiled();
        x.spoil(0, 73);
        x.close(0);
        Checks.same("12: right again, and room", x.publish(), 4);
    }

    private static ImpactShelf busyAndSpoiled() {
        ImpactShelf x = Shelves.busyWithTape();
        x.spoil(x.look(2) - 1, (int) x.file(x.look(2) - 1) ^ 1);
        return x;
    }

    private static void publishOfAFourth() {
        Checks.same("12: the first", held(0).publish(), 1);
        Checks.same("12: the second", held(1).publish(), 2);
        Checks.same("12: the third", held(2).publish(), 3);
        Twin.refuses("12: the fourth", Checks.STATE, () -> held(3), ImpactShelf::publish);
        Twin.refuses("12: the fourth, the latest held twice", Checks.STATE, ReaderBoundaryTest::latestHeldTwice,
            ImpactShelf::publish);
        for (int reader = 0; reader < 3; reader++) {
            ImpactShelf x = held(3);
            x.close(reader);
            Checks.same("12: the fourth, one of three closed", x.publish(), 4);
            Checks.same("12: three are kept then", x.look(1), 3);
        }
    }

    private static ImpactShelf latestHeldTwice() {
        ImpactShelf x = held(3);
        x.open(3);
        x.close(2);
        return x;
    }

    private static void publishWhereTheLatestGoes() {
        ImpactShelf x = held(2);
        for (int g = 3; g < 20; g++) {
            Checks.same("12: generation " + g + ", the latest goes", x.publish(), g);
            Checks.same("12: three are kept", x.look(1), 3);
        }
        Checks.same("12: the first is held", x.holds(0), 1);
        Checks.same("12: the second is held", x.holds(1), 2);
        Checks.same("12: the latest is opened", x.open(2), 19);
        Twin.refuses("12: then it can't go", Checks.STATE, () -> held(3), ImpactShelf::publish);
        ImpactShelf y = withFile();
        y.publish();
        y.publish();
        Checks.same("12: without readers one is kept", y.look(1), 1);
    }

    private static void publishOfAFileAlone() {
        ImpactShelf x = held(0);
        x.clear();
        Checks.same("12: without a collection", x.publish(), 1);
        x.cut(0);
        x.open(0);
        Checks.same("12: its own, the file is cut", x.index(0, 0), 1);
        Checks.same("12: can be asked", Checks.query(x, "", 0, 40, 600, Shelves.EVER), 1);
    }

    private static void publishBesideOneThatWent() {
        ImpactShelf x = held(1);
        x.publish();
        x.close(0);
        Checks.same("12: the older one went", x.look(1), 1);
        Checks.same("12: a third generation", x.publish(), 3);
        Checks.same("12: the latest went, too", x.look(1), 1);
        x.open(0);
        x.publish();
        x.open(1);
        x.publish();
        x.close(0);
        Checks.same("12: one in the middle is held, and the latest", x.look(1), 2);
        Checks.same("12: a sixth generation", x.publish(), 6);
        Checks.same("12: the fourth and the sixth", x.look(1), 2);
        Checks.same("12: the fourth", x.index(1, 0), 1);
    }

    private static void generation0StaysEmpty() {
        ImpactShelf x = withFile();
        x.open(3);
        x.publish();
        x.open(0);
        x.publish();
        x.close(0);
        for (int what = 0; what < 4; what++) {
            Checks.same("generation 0: empty where another went, " + what, x.index(3, what), 0);
        }
        Checks.same("generation 0: without a term", Checks.query(x, "fig", 3, 40, 600, Shelves.EVER), 0);
        x.publish();
        Checks.same("generation 0: empty still", x.index(3, 0), 0);
    }

    private static void nothingIsLeftOfALargerOne() {
        ImpactShelf x = Shelves.sixDocuments();
        for (int g = 1; g < 9; g++) {
            x.build(2, 0);
            x.publish();
        }
        x.clear();
        Checks.add(x, "a");
        for (int g = 9; g < 17; g++) {
            x.build(2, 0);
            Checks.same("12: a small one, " + g, x.publish(), g);
            x.open(g % 2);
            Checks.same("12: asked for terms of the larger, " + g, Checks.query(x, "oat fig rye bean", g % 2, 40, 600,
                Shelves.EVER), 0);
            Checks.same("12: it has none of them, " + g, x.last(0), 0);
            Checks.same("12: its segments, " + g, x.index(g % 2, 3), 1);
            x.close(1 - g % 2);
        }
    }

    private static void keptByTheLastReader() {
        ImpactShelf x = held(1);
        x.open(1);
        x.open(2);
        x.publish();
        Checks.same("kept: one that three readers hold, and the latest", x.look(1), 2);
        Checks.isTrue("kept: one of them closes", x.close(1));
        Checks.same("kept: it stays", x.look(1), 2);
        Checks.isTrue("kept: another closes", x.close(0));
        Checks.same("kept: it still stays", x.look(1), 2);
        Checks.same("kept: its documents", x.index(2, 0), 1);
        Checks.isTrue("kept: the last one closes", x.close(2));
        Checks.same("kept: it is gone", x.look(1), 1);
        Checks.same("kept: a reader gets the latest", x.open(2), 2);
    }

    private static void latestIsKeptWithoutAReader() {
        ImpactShelf x = held(1);
        Checks.isTrue("kept: the latest is closed", x.close(0));
        Checks.same("kept: it stays", x.look(1), 1);
        Checks.same("kept: it can be held again", x.open(3), 1);
        Checks.same("kept: its documents", x.index(3, 0), 1);
        x.close(3);
        Checks.same("kept: until the next is published", x.publish(), 2);
        Checks.same("kept: which alone is kept", x.look(1), 1);
    }

    private static void openOfNoReader() {
        for (int reader : NO_READERS) {
            Twin.refuses("13: reader " + reader, Checks.ARGUMENT, Shelves::busyWithTape, x -> x.open(reader));
            Twin.refuses("13: reader " + reader + " of a new object", Checks.ARGUMENT, ImpactShelf::new,
                x -> x.open(reader));
        }
    }

    private static void openOfOneThatHolds() {
        Twin.refuses("13: it holds an older one", Checks.STATE, Shelves::busyWithTape, x -> x.open(0));
        Twin.refuses("13: it holds the latest", Checks.STATE, () -> held(3), x -> x.open(2));
        Twin.refuses("13: it holds generation 0", Checks.STATE, () -> opened(3), x -> x.open(3));
        ImpactShelf x = Shelves.busyWithTape();
        x.close(0);
        Checks.same("13: it held one", x.open(0), 3);
    }

    /** A new object of which a reader holds generation 0. */
    private static ImpactShelf opened(int reader) {
        ImpactShelf x = new ImpactShelf();
        x.open(reader);
        return x;
    }

    private static void openAtTheEnds() {
        for (int reader = 0; reader < 4; reader++) {
            ImpactShelf x = withFile();
            x.publish();
            Checks.same("13: reader " + reader, x.open(reader), 1);
            for (int other = 0; other < 4; other++) {
                Checks.same("13: it alone, " + other, x.holds(other), other == reader ? 1 : -1);
            }
        }
        ImpactShelf x = withFile();
        x.publish();
        for (int reader = 0; reader < 4; reader++) {
            Checks.same("13: all hold the same", x.open(reader), 1);
        }
        Checks.same("13: it is kept once", x.look(1), 1);
    }

    private static void closeOfNoReader() {
        for (int reader : NO_READERS) {
            Twin.refuses("14: reader " + reader, Checks.ARGUMENT, Shelves::busyWithTape, x -> x.close(reader));
            Twin.refuses("14: reader " + reader + " of a new object", Checks.ARGUMENT, ImpactShelf::new,
                x -> x.close(reader));
        }
    }

    private static void closeOfOneThatIsClosed() {
        for (int reader = 0; reader < 4; reader++) {
            int at = reader;
            Twin.answers("14: of a new object, " + reader, false, ImpactShelf::new, x -> x.close(at));
        }
        Twin.answers("14: beside those that hold", false, Shelves::busyWithTape, x -> x.close(2));
        Twin.answers("14: a second time", false, ReaderBoundaryTest::closed, x -> x.close(0));
        ImpactShelf x = held(1);
        Checks.isTrue("14: it held one", x.close(0));
        Checks.isFalse("14: it does not any more", x.close(0));
    }

    private static ImpactShelf closed() {
        ImpactShelf x = Shelves.busyWithTape();
        x.close(0);
        return x;
    }

    private static void lookOfANewObject() {
        for (int what = 0; what < 5; what++) {
            int at = what;
            Twin.answers("21: of a new object, " + what, 0, ImpactShelf::new, x -> x.look(at));
        }
    }

    private static void lookOfAnotherWhat() {
        for (int what : new int[] {-1, 5, 256, Integer.MAX_VALUE, Integer.MIN_VALUE}) {
            Twin.refuses("21: what " + what, Checks.NONE, Shelves::busyWithTape, x -> x.look(what));
        }
    }

    private static void lookAtTheEnds() {
        int[] due = {3, 3, 74, 1, 8};
        for (int what = 0; what < 5; what++) {
            int at = what;
            Twin.answers("21: looking alone, " + what, due[what], Shelves::busyWithTape, x -> x.look(at));
        }
        Twin.answers("21: not right is 0", 0, ReaderBoundaryTest::busyAndSpoiled, x -> x.look(3));
        Checks.same("21: bytes of a file", withFile().look(2), 18);
        ImpactShelf x = withFile();
        x.cut(17);
        Checks.same("21: bytes of one cut", x.look(2), 17);
        Checks.same("21: which is not right", x.look(3), 0);
    }

    private static void holdsOfNoReader() {
        for (int reader : NO_READERS) {
            Twin.refuses("22: reader " + reader, Checks.ARGUMENT, Shelves::busyWithTape, x -> x.holds(reader));
        }
    }

    private static void holdsAtTheEnds() {
        int[] due = {1, 2, -1, -1};
        for (int reader = 0; reader < 4; reader++) {
            int at = reader;
            Twin.answers("22: of a new object, " + reader, -1, ImpactShelf::new, x -> x.holds(at));
            Twin.answers("22: of those that hold, " + reader, due[reader], Shelves::busyWithTape, x -> x.holds(at));
            Twin.answers("22: generation 0, " + reader, 0, () -> opened(at), x -> x.holds(at));
        }
        Checks.same("22: closed", closed().holds(0), -1);
    }

    private static void indexOfNone() {
        for (int reader : NO_READERS) {
            Twin.refuses("23: reader " + reader, Checks.ARGUMENT, Shelves::busyWithTape, x -> x.index(reader, 0));
            Twin.refuses("23: reader and what " + reader, Checks.ARGUMENT, Shelves::busyWithTape,
                x -> x.index(reader, reader));
        }
        for (int what : new int[] {-1, 4, 256, Integer.MAX_VALUE, Integer.MIN_VALUE}) {
            Twin.refuses("23: what " + what, Checks.ARGUMENT, Shelves::busyWithTape, x -> x.index(0, what));
            Twin.refuses("23: what " + what + " is told ahead of closed", Checks.ARGUMENT, Shelves::busyWithTape,
                x -> x.index(2, what));
        }
    }

    private static void indexOfOneThatIsClosed() {
        for (int what = 0; what < 4; what++) {
            int at = what;
            Twin.refuses("23: closed, what " + what, Checks.STATE, Shelves::busyWithTape, x -> x.index(3, at));
            Twin.refuses("23: never open, what " + what, Checks.STATE, ImpactShelf::new, x -> x.index(0, at));
            Twin.refuses("23: closed again, what " + what, Checks.STATE, ReaderBoundaryTest::closed, x -> x.index(0, at));
        }
    }

    private static void indexes(String what, Supplier<ImpactShelf> kind, int reader, int... due) {
        for (int i = 0; i < due.length; i++) {
            int at = i;
            Twin.answers("23: " + what + ", what " + i, due[i], kind, x -> x.index(reader, at));
        }
    }

    private static void indexOfGeneration0() {
        indexes("generation 0", () -> opened(0), 0, 0, 0, 0, 0);
        indexes("generation 0, the last reader", () -> opened(3), 3, 0, 0, 0, 0);
        indexes("an older one", Shelves::busyWithTape, 0, 6, 4, 11, 8);
        indexes("a newer one", Shelves::busyWithTape, 1, 7, 5, 13, 7);
    }

    private static void indexOfTheLargest() {
        indexes("40 documents", () -> published(Shelves.documents(40)), 0, 40, 1, 40, 1);
        indexes("64 terms", () -> published(Shelves.terms(64)), 0, 1, 64, 64, 64);
        indexes("600 postings", () -> published(Shelves.postings(600)), 0, 25, 24, 600, 24);
    }

    private static ImpactShelf published(ImpactShelf x) {
        x.build(2, 2);
        x.publish();
        x.open(0);
        return x;
    }
}
