import java.io.ByteArrayOutputStream;
import java.math.BigInteger;
import java.nio.charset.StandardCharsets;
import java.util.ArrayList;
import java.util.Arrays;
import java.util.Comparator;
import java.util.List;
import java.util.Map;
import java.util.NoSuchElementException;
import java.util.TreeMap;
import java.util.TreeSet;
import java.util.regex.Matcher;
import java.util.regex.Pattern;

/**
 * The document once more, over the collections of the Java library and in another way than the program:
 * a file is judged by looking at each of its bytes, and nothing is written again to compare with.
 */
final class Model {
    private static final int[] HOLD = {60, 30, 20, 15, 12, 10, 6, 4, 3, 2, 1};

    private static final class Index {
        int bits;
        int n;
        final TreeMap<String, TreeMap<Integer, TreeSet<Integer>>> terms = new TreeMap<>();

        int postings() {
            return terms.values().stream().flatMap(s -> s.values().stream()).mapToInt(TreeSet::size).sum();
        }

        int segments() {
            return terms.values().stream().mapToInt(TreeMap::size).sum();
        }

        TreeMap<Integer, TreeSet<Integer>> segmentsOf(String term) {
            return terms.computeIfAbsent(term, t -> new TreeMap<>(Comparator.reverseOrder()));
        }
    }

    private static final class Wrong extends Exception {
        private static final long serialVersionUID = 1;
    }

    private static final class Planned {
        int term;
        int impact;
        TreeSet<Integer> documents;
    }

    private final ByteArrayOutputStream tape = new ByteArrayOutputStream();
    private final List<List<String>> documents = new ArrayList<>();
    private byte[] file = new byte[0];
    private final Map<Integer, Index> generations = new TreeMap<>();
    private final int[] held = {-1, -1, -1, -1};
    private int latest = 0;
    private long clock = 0;

    private int queryTerms = 0;
    private List<Planned> plan = new ArrayList<>();
    private int done = 0;
    private int donePostings = 0;
    private int why = 0;
    private final int[] sums = new int[40];
    private List<Integer> hits = new ArrayList<>();

    Model() {
        generations.put(0, new Index());
    }

    private List<String> useTape() {
        String text = new String(tape.toByteArray(), StandardCharsets.ISO_8859_1);
        tape.reset();
        List<String> words = new ArrayList<>();
        Matcher m = Pattern.compile("[a-zA-Z]+").matcher(text);
        while (m.find()) {
            String word = m.group().toLowerCase();
            word = word.length() > 8 ? word.substring(0, 8) : word;
            words.add(word.matches("..+[^s]s") ? word.substring(0, word.length() - 1) : word);
        }
        return words;
    }

    int feed(int n, long v) {
        if (n < 1 || n > 8) {
            throw new IllegalArgumentException();
        }
        if (tape.size() + n > 3000) {
            throw new IllegalStateException();
        }
        byte[] bytes = BigInteger.valueOf(v).toByteArray();
        for (int i = 0; i < n; i++) {
            tape.write(i < bytes.length ? bytes[bytes.length - 1 - i] : v < 0 ? 255 : 0);
        }
        return tape.size();
    }

    int add() {
        List<String> words = useTape();
        if (words.isEmpty()) {
            throw new IllegalArgumentException();
        }
        documents.add(words);
        if (documents.size() > 40 || terms().size() > 64 || postings() > 600) {
            documents.remove(documents.size() - 1);
            throw new IllegalStateException();
        }
        return documents.size() - 1;
    }

    private TreeSet<String> terms() {
        TreeSet<String> all = new TreeSet<>();
        documents.forEach(all::addAll);
        return all;
    }

    private int postings() {
        return documents.stream().mapToInt(d -> new TreeSet<>(d).size()).sum();
    }

    int clear() {
        int before = documents.size();
        documents.clear();
        return before;
    }

    int count(int what) {
        switch (what) {
            case 0: return documents.size();
            case 1: return terms().size();
            case 2: return postings();
            case 3: return documents.stream().mapToInt(List::size).sum();
            default: throw new NoSuchElementException();
        }
    }

    double score(int document) {
        List<String> words = useTape();
        if (words.size() != 1) {
            throw new IllegalArgumentException();
        }
        if (document < 0 || document >= documents.size()) {
            throw new NoSuchElementException();
        }
        return documents.get(document).contains(words.get(0)) ? scoreOf(words.get(0), document) : 0.0;
    }

    private double scoreOf(String term, int document) {
        double n = documents.size();
        double df = documents.stream().filter(d -> d.contains(term)).count();
        double tf = documents.get(document).stream().filter(term::equals).count();
        double l = documents.get(document).size();
        double a = count(3) / n;
        return ln(n / df) * (1.9 * tf / (0.9 * (0.6 + 0.4 * l / a) + tf));
    }

    private static double ln(double x) {
        double e = 0;
        for (; x >= 2; x /= 2) {
            e++;
        }
        double y = (x - 1) / (x + 1);
        double s = 0;
        double t = y;
        for (double k = 1; k < 24; k += 2, t = t * y * y) {
            s = s + t / k;
        }
        return 2 * s + e * 0.6931471805599453;
    }

    int build(int bits, int codec) {
        if (bits < 2 || bits > 8 || codec < 0 || codec > 2) {
            throw new IllegalArgumentException();
        }
        if (documents.isEmpty()) {
            throw new IllegalStateException();
        }
        file = write(made(bits), codec);
        return file.length;
    }

    private Index made(int bits) {
        Index index = new Index();
        index.bits = bits;
        index.n = documents.size();
        TreeMap<String, TreeMap<Integer, Double>> scores = new TreeMap<>();
        TreeSet<Double> all = new TreeSet<>();
        for (String term : terms()) {
            scores.put(term, new TreeMap<>());
            for (int d = 0; d < index.n; d++) {
                if (documents.get(d).contains(term)) {
                    scores.get(term).put(d, scoreOf(term, d));
                    all.add(scoreOf(term, d));
                }
            }
        }
        double q = Math.pow(2, bits) - 1;
        double min = all.first();
        double max = all.last();
        scores.forEach((term, row) -> row.forEach((d, score) -> {
            double impact = min == max ? q : 1 + (score - min) * (q - 1) / (max - min);
            index.segmentsOf(term).computeIfAbsent((int) (impact + 0.5), i -> new TreeSet<>()).add(d);
        }));
        return index;
    }

    private static byte[] write(Index index, int codec) {
        ByteArrayOutputStream out = new ByteArrayOutputStream();
        for (int head : new int[] {73, 109, index.bits, codec, index.n, index.terms.size()}) {
            out.write(head);
        }
        index.terms.forEach((term, segments) -> {
            out.write(term.length());
            out.writeBytes(term.getBytes(StandardCharsets.ISO_8859_1));
            out.write(segments.size());
            segments.forEach((impact, docs) -> {
                out.write(impact);
                out.write(docs.size());
                out.writeBytes(coded(gapsOf(docs), codec));
            });
        });
        out.writeBytes(sumOf(out.toByteArray()));
        return out.toByteArray();
    }

    private static byte[] sumOf(byte[] bytes) {
        BigInteger m = BigInteger.valueOf(65521);
        BigInteger u = BigInteger.ONE;
        BigInteger v = BigInteger.ZERO;
        for (byte b : bytes) {
            u = u.add(BigInteger.valueOf(b & 255)).mod(m);
            v = v.add(u).mod(m);
        }
        return lowestFirst(u.add(v.shiftLeft(16)), 4);
    }

    private static byte[] lowestFirst(BigInteger number, int n) {
        byte[] bytes = new byte[n];
        for (int i = 0; i < n; i++) {
            bytes[i] = number.shiftRight(8 * i).byteValue();
        }
        return bytes;
    }

    private static List<Integer> gapsOf(TreeSet<Integer> docs) {
        List<Integer> gaps = new ArrayList<>();
        for (int d : docs) {
            Integer before = docs.lower(d);
            gaps.add(before == null ? d : d - before - 1);
        }
        return gaps;
    }

    private static int bits(int number) {
        return BigInteger.valueOf(number).bitLength();
    }

    private static int way(List<Integer> gaps, int from) {
        for (int w = 0;; w++) {
            int most = 0;
            for (int gap : gaps.subList(from, Math.min(gaps.size(), from + HOLD[w]))) {
                most = Math.max(most, bits(gap));
            }
            if (most <= 60 / HOLD[w]) {
                return w;
            }
        }
    }

    private static byte[] coded(List<Integer> gaps, int codec) {
        ByteArrayOutputStream out = new ByteArrayOutputStream();
        if (codec == 0) {
            for (int gap : gaps) {
                for (; gap > 127; gap /= 128) {
                    out.write(gap % 128);
                }
                out.write(gap + 128);
            }
        } else if (codec == 1) {
            for (int from = 0; from < gaps.size();) {
                int w = way(gaps, from);
                BigInteger word = BigInteger.valueOf(w);
                for (int i = 0; i < HOLD[w] && from < gaps.size(); i++, from++) {
                    word = word.add(BigInteger.valueOf(gaps.get(from)).shiftLeft(4 + i * (60 / HOLD[w])));
                }
                out.writeBytes(lowestFirst(word, 8));
            }
        } else {
            int width = gaps.stream().mapToInt(Model::bits).max().getAsInt();
            BigInteger all = BigInteger.ZERO;
            for (int i = 0; i < gaps.size(); i++) {
                all = all.add(BigInteger.valueOf(gaps.get(i)).shiftLeft(i * width));
            }
            out.write(width);
            out.writeBytes(lowestFirst(all, (gaps.size() * width + 7) / 8));
        }
        return out.toByteArray();
    }

    /** Reads a file byte by byte and gives up at the first that is not as the document tells it. */
    private static final class Judge {
        private final byte[] row;
        private int at = 0;

        Judge(byte[] row) {
            this.row = row;
        }

        static void must(boolean holds) throws Wrong {
            if (!holds) {
                throw new Wrong();
            }
        }

        int next(int least, int most) throws Wrong {
            must(at < row.length);
            int v = row[at++] & 255;
            must(v >= least && v <= most);
            return v;
        }

        BigInteger number(int bytes) throws Wrong {
            BigInteger all = BigInteger.ZERO;
            for (int i = 0; i < bytes; i++) {
                all = all.add(BigInteger.valueOf(next(0, 255)).shiftLeft(8 * i));
            }
            return all;
        }

        static int part(BigInteger all, int from, int width) throws Wrong {
            BigInteger v = all.shiftRight(from).mod(BigInteger.ONE.shiftLeft(width));
            must(v.compareTo(BigInteger.valueOf(40)) < 0);
            return v.intValue();
        }

        Index whole() throws Wrong {
            next(73, 73);
            next(109, 109);
            Index index = new Index();
            index.bits = next(2, 8);
            int codec = next(0, 2);
            index.n = next(1, 40);
            int terms = next(1, 64);
            String before = "";
            for (int t = 0; t < terms; t++) {
                StringBuilder term = new StringBuilder();
                for (int left = next(1, 8); left > 0; left--) {
                    term.append((char) next('a', 'z'));
                }
                must(term.toString().compareTo(before) > 0);
                before = term.toString();
                segments(index, before, codec);
            }
            must(index.postings() <= 600);
            must(Arrays.equals(sumOf(Arrays.copyOf(row, at)), Arrays.copyOfRange(row, at, row.length)));
            return index;
        }

        private void segments(Index index, String term, int codec) throws Wrong {
            TreeSet<Integer> seen = new TreeSet<>();
            int above = 1 << index.bits;
            for (int left = next(1, 255); left > 0; left--) {
                int impact = next(1, above - 1);
                above = impact;
                int many = next(1, index.n);
                TreeSet<Integer> docs = new TreeSet<>();
                int d = -1;
                for (int gap : gaps(many, codec)) {
                    d += gap + 1;
                    must(d < index.n && seen.add(d));
                    docs.add(d);
                }
                index.segmentsOf(term).put(impact, docs);
            }
        }

        private List<Integer> gaps(int many, int codec) throws Wrong {
            return codec == 0 ? sevens(many) : codec == 1 ? words(many) : even(many);
        }

        private List<Integer> sevens(int many) throws Wrong {
            List<Integer> gaps = new ArrayList<>();
            while (gaps.size() < many) {
                gaps.add(next(128, 128 + 39) - 128);
            }
            return gaps;
        }

        private List<Integer> words(int many) throws Wrong {
            List<Integer> gaps = new ArrayList<>();
            List<Integer> starts = new ArrayList<>();
            List<Integer> ways = new ArrayList<>();
            while (gaps.size() < many) {
                starts.add(gaps.size());
                BigInteger word = number(8);
                int w = word.intValue() & 15;
                must(w <= 10);
                ways.add(w);
                int width = 60 / HOLD[w];
                for (int i = 0; i < HOLD[w]; i++) {
                    int gap = part(word, 4 + i * width, width);
                    must(gaps.size() < many || gap == 0);
                    if (gaps.size() < many) {
                        gaps.add(gap);
                    }
                }
            }
            for (int i = 0; i < ways.size(); i++) {
                must(ways.get(i) == way(gaps, starts.get(i)));
            }
            return gaps;
        }

        private List<Integer> even(int many) throws Wrong {
            int width = next(0, 6);
            int bytes = (many * width + 7) / 8;
            BigInteger all = number(bytes);
            List<Integer> gaps = new ArrayList<>();
            int most = 0;
            for (int i = 0; i < many; i++) {
                gaps.add(part(all, i * width, width));
                most = Math.max(most, bits(gaps.get(i)));
            }
            must(most == width && all.shiftRight(many * width).signum() == 0);
            return gaps;
        }
    }

    private Index read() {
        try {
            return new Judge(file).whole();
        } catch (Wrong e) {
            return null;
        }
    }

    private void requireByte(int k) {
        if (k < 0 || k >= file.length) {
            throw new NoSuchElementException();
        }
    }

    long file(int k) {
        requireByte(k);
        byte[] eight = Arrays.copyOf(Arrays.copyOfRange(file, k, Math.min(file.length, k + 8)), 8);
        long v = 0;
        for (int i = 7; i >= 0; i--) {
            v = v << 8 | eight[i] & 255;
        }
        return v;
    }

    int spoil(int k, int v) {
        requireByte(k);
        int before = file[k] & 255;
        file[k] = (byte) v;
        return before;
    }

    boolean cut(int n) {
        if (n < 0 || n > file.length) {
            return false;
        }
        file = Arrays.copyOf(file, n);
        return true;
    }

    boolean mend() {
        if (file.length < 4) {
            return false;
        }
        byte[] sum = sumOf(Arrays.copyOf(file, file.length - 4));
        System.arraycopy(sum, 0, file, file.length - 4, 4);
        return true;
    }

    private boolean isHeld(int generation) {
        return Arrays.stream(held).anyMatch(h -> h == generation);
    }

    int publish() {
        Index index = read();
        if (index == null) {
            throw new IllegalArgumentException();
        }
        if (generations.keySet().stream().filter(g -> g > 0 && isHeld(g)).count() == 3) {
            throw new IllegalStateException();
        }
        latest++;
        generations.put(latest, index);
        forgetUnheld();
        return latest;
    }

    private void forgetUnheld() {
        generations.keySet().removeIf(g -> g > 0 && g != latest && !isHeld(g));
    }

    private void requireReader(int reader) {
        if (reader < 0 || reader > 3) {
            throw new IllegalArgumentException();
        }
    }

    int open(int reader) {
        requireReader(reader);
        if (held[reader] >= 0) {
            throw new IllegalStateException();
        }
        held[reader] = latest;
        return latest;
    }

    boolean close(int reader) {
        requireReader(reader);
        boolean was = held[reader] >= 0;
        held[reader] = -1;
        forgetUnheld();
        return was;
    }

    int query(int reader, int k, int rho, long until) {
        TreeSet<String> asked = new TreeSet<>(useTape());
        requireReader(reader);
        Index index = held[reader] < 0 ? new Index() : generations.get(held[reader]);
        asked.retainAll(index.terms.keySet());
        if (k < 1 || k > 40 || rho < 0 || asked.size() > 8) {
            throw new IllegalArgumentException();
        }
        if (held[reader] < 0) {
            throw new IllegalStateException();
        }
        queryTerms = asked.size();
        plan = new ArrayList<>();
        for (String term : asked) {
            index.terms.get(term).forEach((impact, docs) -> {
                Planned p = new Planned();
                p.term = asked.headSet(term).size();
                p.impact = impact;
                p.documents = docs;
                plan.add(p);
            });
        }
        plan.sort(Comparator.<Planned>comparingInt(p -> -p.impact).thenComparingInt(p -> p.documents.size())
            .thenComparingInt(p -> p.term));
        work(rho, until);
        hits = new ArrayList<>();
        for (int d = 0; d < 40; d++) {
            if (sums[d] > 0) {
                hits.add(d);
            }
        }
        hits.sort(Comparator.<Integer>comparingInt(d -> -sums[d]).thenComparingInt(d -> d));
        hits = hits.subList(0, Math.min(k, hits.size()));
        return hits.size();
    }

    private void work(int rho, long until) {
        Arrays.fill(sums, 0);
        done = 0;
        donePostings = 0;
        why = 0;
        for (Planned p : plan) {
            if (donePostings >= rho) {
                why = 1;
                return;
            }
            if (clock >= until) {
                why = 2;
                return;
            }
            for (int d : p.documents) {
                sums[d] += p.impact;
                donePostings++;
                clock++;
            }
            done++;
        }
    }

    int hit(int i, int what) {
        if (i < 0 || i >= hits.size() || what < 0 || what > 1) {
            throw new NoSuchElementException();
        }
        return what == 0 ? hits.get(i) : sums[hits.get(i)];
    }

    int sum(int document) {
        if (document < 0 || document > 39) {
            throw new IllegalArgumentException();
        }
        return sums[document];
    }

    int last(int what) {
        switch (what) {
            case 0: return queryTerms;
            case 1: return plan.size();
            case 2: return done;
            case 3: return donePostings;
            case 4: return plan.stream().mapToInt(p -> p.documents.size()).sum();
            case 5: return why;
            default: throw new NoSuchElementException();
        }
    }

    int plan(int i, int what) {
        if (i < 0 || i >= plan.size() || what < 0 || what > 2) {
            throw new NoSuchElementException();
        }
        Planned p = plan.get(i);
        return what == 0 ? p.term : what == 1 ? p.impact : p.documents.size();
    }

    boolean exhaustive() {
        return true;
    }

    int look(int what) {
        switch (what) {
            case 0: return latest;
            case 1: return generations.size() - 1;
            case 2: return file.length;
            case 3: return read() == null ? 0 : 1;
            case 4: return tape.size();
            default: throw new NoSuchElementException();
        }
    }

    int holds(int reader) {
        requireReader(reader);
        return held[reader];
    }

    int index(int reader, int what) {
        requireReader(reader);
        if (what < 0 || what > 3) {
            throw new IllegalArgumentException();
        }
        if (held[reader] < 0) {
            throw new IllegalStateException();
        }
        Index index = generations.get(held[reader]);
        return what == 0 ? index.n : what == 1 ? index.terms.size() : what == 2 ? index.postings() : index.segments();
    }

    long clock() {
        return clock;
    }
}
