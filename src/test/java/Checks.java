import java.nio.charset.StandardCharsets;
import java.util.function.Supplier;

/** What the tests share: checks that are counted, and calls that take whole texts and files. */
final class Checks {
    static final Class<IllegalArgumentException> ARGUMENT = IllegalArgumentException.class;
    static final Class<IllegalStateException> STATE = IllegalStateException.class;
    static final Class<java.util.NoSuchElementException> NONE = java.util.NoSuchElementException.class;

    private static int passed = 0;
    private static int failed = 0;

    private Checks() {
    }

    static void same(String what, Object got, Object want) {
        if (got.equals(want)) {
            passed++;
        } else {
            failed++;
            System.out.println(what + " answered " + got + ", due is " + want);
        }
    }

    static void same(String what, long got, long want) {
        same(what, Long.valueOf(got), Long.valueOf(want));
    }

    static void isTrue(String what, boolean got) {
        same(what, Boolean.valueOf(got), Boolean.TRUE);
    }

    static void isFalse(String what, boolean got) {
        same(what, Boolean.valueOf(got), Boolean.FALSE);
    }

    static void refuses(String what, Class<? extends RuntimeException> want, Supplier<Object> call) {
        String got;
        try {
            got = String.valueOf(call.get());
        } catch (RuntimeException e) {
            got = e.getClass().getName();
        }
        same(what, got, want.getName());
    }

    static void tape(ImpactShelf x, String text) {
        byte[] bytes = text.getBytes(StandardCharsets.ISO_8859_1);
        for (int i = 0; i < bytes.length; i += 8) {
            int n = Math.min(8, bytes.length - i);
            long v = 0;
            for (int j = 0; j < n; j++) {
                v |= (bytes[i + j] & 255L) << (8 * j);
            }
            x.feed(n, v);
        }
    }

    static int add(ImpactShelf x, String text) {
        tape(x, text);
        return x.add();
    }

    static ImpactShelf shelfOf(String... texts) {
        ImpactShelf x = new ImpactShelf();
        for (String text : texts) {
            add(x, text);
        }
        return x;
    }

    static int query(ImpactShelf x, String text, int reader, int k, int rho, long until) {
        tape(x, text);
        return x.query(reader, k, rho, until);
    }

    static double score(ImpactShelf x, String text, int document) {
        tape(x, text);
        return x.score(document);
    }

    /** The whole file, its bytes as told by file(k), joined by commas. */
    static String fileOf(ImpactShelf x) {
        StringBuilder all = new StringBuilder();
        int size = x.look(2);
        for (int k = 0; k < size; k += 8) {
            long v = x.file(k);
            for (int i = 0; i < 8 && k + i < size; i++) {
                all.append(k + i == 0 ? "" : ",").append((v >>> (8 * i)) & 255);
            }
        }
        return all.toString();
    }

    /** A file told by its bytes, joined by commas, with the sum put behind. */
    static String withSum(String bytes) {
        int u = 1;
        int v = 0;
        for (String one : bytes.split(",")) {
            u = (u + Integer.parseInt(one)) % 65521;
            v = (v + u) % 65521;
        }
        return bytes + "," + (u & 255) + "," + (u >> 8) + "," + (v & 255) + "," + (v >> 8);
    }

    static void end(String name) {
        System.out.println(name + ": " + passed + " passed, " + failed + " failed");
        if (failed != 0) {
            System.exit(1);
        }
    }
}
