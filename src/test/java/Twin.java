import java.util.function.Function;
import java.util.function.Supplier;

/**
 * A call that must change nothing: it is made on a shelf, and all that can then be seen of that shelf must be
 * what is seen of its twin, which was made alike and never called so.
 */
final class Twin {
    private static final String ASKED = "oat rye fig bean hop";
    private static final int READS_OF_A_FILE = 40;
    private static final int ROWS_OF_A_LIST = 12;

    private Twin() {
    }

    /** The call throws and changes nothing. */
    static void refuses(String what, Class<? extends RuntimeException> due, Supplier<ImpactShelf> kind,
            Function<ImpactShelf, Object> call) {
        ImpactShelf called = kind.get();
        Checks.refuses(what, due, () -> call.apply(called));
        same(what + ": nothing has changed", seen(called), seen(kind.get()));
    }

    /** The call, with a text on the tape of a shelf whose tape is empty, throws, uses up the tape, changes no more. */
    static void refusesText(String what, Class<? extends RuntimeException> due, Supplier<ImpactShelf> kind,
            String text, Function<ImpactShelf, Object> call) {
        ImpactShelf called = kind.get();
        Checks.tape(called, text);
        Checks.refuses(what, due, () -> call.apply(called));
        same(what + ": nothing but the tape has changed", seen(called), seen(kind.get()));
    }

    /** The call answers and changes nothing. */
    static void answers(String what, Object due, Supplier<ImpactShelf> kind, Function<ImpactShelf, Object> call) {
        ImpactShelf called = kind.get();
        Checks.same(what, call.apply(called), due);
        same(what + ": nothing has changed", seen(called), seen(kind.get()));
    }

    /** Of two that are not the same the first line alone that is another one is told. */
    private static void same(String what, String got, String due) {
        String[] gotLines = got.split("\n");
        String[] dueLines = due.split("\n");
        int i = 0;
        while (i < gotLines.length - 1 && i < dueLines.length - 1 && gotLines[i].equals(dueLines[i])) {
            i++;
        }
        Checks.same(what, gotLines[i], dueLines[i]);
    }

    /** What a query left: its numbers, its plan, its hits, the sums, each no further than a few rows. */
    static String latestQuery(ImpactShelf x) {
        StringBuilder all = new StringBuilder("last");
        for (int what = 0; what < 6; what++) {
            all.append(' ').append(x.last(what));
        }
        for (int i = 0; i < Math.min(x.last(1), ROWS_OF_A_LIST); i++) {
            all.append("; plan ").append(x.plan(i, 0)).append(' ').append(x.plan(i, 1)).append(' ').append(x.plan(i, 2));
        }
        for (int i = 0; i < ROWS_OF_A_LIST; i++) {
            int at = i;
            String document = answer(() -> x.hit(at, 0));
            all.append("; hit ").append(document);
            if (document.startsWith("throws")) {
                break;
            }
            all.append(' ').append(x.hit(i, 1));
        }
        all.append("; sums");
        for (int d = 0; d < 40; d++) {
            all.append(' ').append(x.sum(d));
        }
        return all.append("; ").append(x.exhaustive()).append("; clock ").append(x.clock()).toString();
    }

    /** All that can be seen of a shelf, which is used for that: its tape, its collection, its generations. */
    private static String seen(ImpactShelf x) {
        StringBuilder all = new StringBuilder();
        looks(x, all);
        all.append('\n').append(latestQuery(x));
        all.append("\nfile ").append(file(x));
        all.append("\nadd ").append(answer(x::add)).append(" terms ").append(x.count(1)).append(" words ").append(x.count(3));
        all.append("\nbuild ").append(answer(() -> x.build(8, 2))).append(' ').append(file(x));
        for (int reader = 0; reader < 4; reader++) {
            if (x.holds(reader) > 0) {
                int at = reader;
                Checks.tape(x, ASKED);
                all.append("\nquery ").append(answer(() -> x.query(at, 40, 600, Long.MAX_VALUE)));
                all.append(" with ").append(x.last(1)).append(" segments, ").append(x.last(4)).append(" postings");
                all.append(" and ").append(answer(() -> x.hit(0, 0))).append(' ').append(answer(() -> x.hit(0, 1)));
            }
        }
        all.append("\npublish ").append(answer(x::publish)).append(" kept ").append(x.look(1));
        for (int reader = 0; reader < 4; reader++) {
            all.append(" close ").append(x.close(reader)).append(" kept ").append(x.look(1));
        }
        return all.toString();
    }

    private static void looks(ImpactShelf x, StringBuilder all) {
        all.append("count");
        for (int what = 0; what < 4; what++) {
            all.append(' ').append(x.count(what));
        }
        all.append(" look");
        for (int what = 0; what < 5; what++) {
            all.append(' ').append(x.look(what));
        }
        for (int reader = 0; reader < 4; reader++) {
            all.append(" reader ").append(x.holds(reader));
            for (int what = 0; what < 4 && x.holds(reader) >= 0; what++) {
                all.append(' ').append(x.index(reader, what));
            }
        }
    }

    private static String file(ImpactShelf x) {
        StringBuilder all = new StringBuilder();
        int size = x.look(2);
        for (int k = 0; k < size && k < 8 * READS_OF_A_FILE; k += 8) {
            all.append(Long.toHexString(x.file(k))).append(' ');
        }
        return all.toString();
    }

    private static String answer(Supplier<Object> call) {
        try {
            return String.valueOf(call.get());
        } catch (RuntimeException e) {
            return "throws " + e.getClass().getSimpleName();
        }
    }
}
