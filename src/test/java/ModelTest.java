import java.util.function.Supplier;

/** Long runs of calls, drawn by a fixed rule, on the program and on the model: each answer must be the same. */
public final class ModelTest {
    private static final int RUNS = 1500;
    private static final int CALLS = 512;
    private static final String[] WORDS = {
        "oat", "oats", "grass", "classes", "Rye", "rye", "WHEAT", "wheats", "barleycorns", "barleycornfield", "is",
        "ass", "cats", "catss", "a", "b", "c", "dog", "dogs", "elderberries", "figs", "hops", "hop", "zzzzzzzz",
        "zzzzzzz", "zzzzzzzzs", "sss", "ssss", "s", "gasss", "m", "n", "o", "p", "busses", "bus", "buses", "millets"
    };
    private static final String[] GAPS = {" ", "  ", ", ", "-", "7", "\u00e9", "\n", "@", "[", "`", "{", "\u0000"};

    private long state;
    private ImpactShelf x;
    private Model m;
    private int calls;

    private ModelTest(long seed) {
        state = seed * 7919 + 17;
    }

    public static void main(String[] args) {
        for (int run = 0; run < RUNS; run++) {
            new ModelTest(run).run(run);
        }
        Checks.end("ModelTest");
    }

    private int below(int bound) {
        state = state * 6364136223846793005L + 1442695040888963407L;
        return (int) ((state >>> 33) % bound);
    }

    private void run(int run) {
        x = new ImpactShelf();
        m = new Model();
        calls = 0;
        int style = run % 5;
        while (calls < CALLS) {
            step(style);
        }
    }

    private void step(int style) {
        int kind = below(style == 3 ? 60 : 100);
        if (kind < 12) {
            text(1 + below(style == 2 ? 30 : 8));
            both("add()", () -> (long) x.add(), () -> (long) m.add());
        } else if (kind < 20) {
            int bits = 1 + below(9);
            int codec = below(13) == 0 ? below(5) - 1 : below(3);
            both("build " + bits + " " + codec, () -> (long) x.build(bits, codec), () -> (long) m.build(bits, codec));
        } else if (kind < 30) {
            harm(style);
        } else if (kind < 40) {
            both("publish()", () -> (long) x.publish(), () -> (long) m.publish());
        } else if (kind < 48) {
            int reader = reader();
            both("open " + reader, () -> (long) x.open(reader), () -> (long) m.open(reader));
        } else if (kind < 54) {
            int reader = reader();
            both("close " + reader, () -> x.close(reader), () -> m.close(reader));
        } else if (kind < 64) {
            ask();
        } else {
            look(kind);
        }
        if (below(200) == 0) {
            both("clear()", () -> (long) x.clear(), () -> (long) m.clear());
        }
    }

    private int reader() {
        return below(20) == 0 ? below(8) - 2 : below(4);
    }

    private void text(int words) {
        StringBuilder all = new StringBuilder();
        for (int i = 0; i < words; i++) {
            all.append(below(9) == 0 ? "" + (char) ('a' + below(26)) + (char) ('a' + below(26)) : WORDS[below(WORDS.length)]);
            all.append(GAPS[below(12) == 0 ? below(GAPS.length) : 0]);
        }
        for (int i = 0; i < all.length(); i += 8) {
            int n = Math.min(8, all.length() - i);
            long v = below(2) == 0 ? 0 : -1;
            for (int j = n - 1; j >= 0; j--) {
                v = v << 8 | all.charAt(i + j) & 255;
            }
            long fed = v;
            both("feed " + n + " " + v, () -> (long) x.feed(n, fed), () -> (long) m.feed(n, fed));
        }
        if (below(50) == 0) {
            int n = below(12) - 1;
            both("feed " + n, () -> (long) x.feed(n, 7L), () -> (long) m.feed(n, 7L));
        }
    }

    private void harm(int style) {
        int size = m.look(2);
        int place = below(size + 2) - 1;
        if (below(8) == 0) {
            int n = below(4) == 0 ? place : size - below(6);
            both("cut " + n, () -> x.cut(n), () -> m.cut(n));
        } else if (style < 2 || below(2) == 0) {
            int v = below(3) == 0 ? below(256) : below(3) == 0 ? 128 + below(40) : below(12);
            int k = below(4) == 0 ? below(8) : place;
            both("spoil " + k + " " + v, () -> (long) x.spoil(k, v), () -> (long) m.spoil(k, v));
        }
        if (below(2) == 0) {
            both("mend()", () -> x.mend(), () -> m.mend());
            both("look 3", () -> (long) x.look(3), () -> (long) m.look(3));
        }
    }

    private void ask() {
        text(1 + below(10));
        int reader = reader();
        int k = below(10) == 0 ? below(44) - 1 : 1 + below(40);
        int rho = below(10) == 0 ? -below(2) : below(3) == 0 ? 1000 : below(60);
        long until = below(3) == 0 ? Long.MAX_VALUE : m.clock() + below(60) - 2;
        both("query", () -> (long) x.query(reader, k, rho, until), () -> (long) m.query(reader, k, rho, until));
        for (int i = 0; i < 5; i++) {
            look(90 + below(10));
        }
        both("exhaustive()", () -> x.exhaustive(), () -> m.exhaustive());
    }

    private void look(int kind) {
        int what = below(7) - 1;
        int far = below(45) - 2;
        int reader = reader();
        switch (kind % 12) {
            case 0: both("count " + what, () -> (long) x.count(what), () -> (long) m.count(what)); break;
            case 1:
                text(below(8) == 0 ? below(3) : 1);
                both("score " + far, () -> x.score(far), () -> m.score(far));
                break;
            case 2:
                int k = below(m.look(2) + 6) - 3;
                both("file " + k, () -> x.file(k), () -> m.file(k));
                break;
            case 3: both("look " + what, () -> (long) x.look(what), () -> (long) m.look(what)); break;
            case 4: both("holds " + reader, () -> (long) x.holds(reader), () -> (long) m.holds(reader)); break;
            case 5: both("index " + reader + " " + what, () -> (long) x.index(reader, what), () -> (long) m.index(reader, what)); break;
            case 6: both("clock()", () -> x.clock(), () -> m.clock()); break;
            case 7: both("sum " + far, () -> (long) x.sum(far), () -> (long) m.sum(far)); break;
            case 8: both("hit " + far / 3, () -> (long) x.hit(far / 3, what), () -> (long) m.hit(far / 3, what)); break;
            case 9: both("last " + what, () -> (long) x.last(what), () -> (long) m.last(what)); break;
            default: both("plan " + far / 3, () -> (long) x.plan(far / 3, what), () -> (long) m.plan(far / 3, what)); break;
        }
    }

    private void both(String call, Supplier<Object> program, Supplier<Object> model) {
        calls++;
        if (calls > CALLS) {
            return;
        }
        Object due = answer(model);
        Checks.same("call " + calls + ", " + call, answer(program), due);
    }

    private static Object answer(Supplier<Object> call) {
        try {
            return call.get();
        } catch (RuntimeException e) {
            return e.getClass().getName();
        }
    }
}
