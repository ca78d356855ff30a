import java.util.Arrays;
import java.util.NoSuchElementException;

/** A search engine over segments of equal impacts; DOC.md's numbered promises say what each call does. */
public final class ImpactShelf {
    private static final int TAPE_BYTES = 3000;
    private static final int DOCUMENTS = 40;
    private static final int TERMS = 64;
    private static final int POSTINGS = 600;
    private static final int LETTERS = 8;
    private static final int READERS = 4;
    private static final int CLOSED = -1;
    private static final int KEPT = 3;
    private static final int QUERY_TERMS = 8;
    private static final int CODECS = 3;
    private static final int LEAST_BITS = 2;
    private static final int MOST_BITS = 8;
    private static final int SUM_BYTES = 4;

    // Six bytes ahead, ten a term, and at worst a word of its own and two bytes more for each posting.
    private static final int FILE_BYTES = 6 + TERMS * (LETTERS + 2) + POSTINGS * 10 + SUM_BYTES;

    private static final int[] WAY_GAPS = {60, 30, 20, 15, 12, 10, 6, 4, 3, 2, 1};
    private static final int[] WAY_BITS = {1, 2, 3, 4, 5, 6, 10, 15, 20, 30, 60};

    private final Bytes tape = new Bytes(TAPE_BYTES);
    private final Words words = new Words();
    private final Collection collection = new Collection();
    private final Bytes file = new Bytes(FILE_BYTES);
    private final IndexFile indexFile = new IndexFile();
    private final Generations generations = new Generations();
    private final Search search = new Search();
    private Index draft = new Index();
    private long ticks = 0;

    public ImpactShelf() {
    }

    public int feed(int n, long v) throws IllegalArgumentException, IllegalStateException {
        if (n < 1 || n > 8) {
            throw new IllegalArgumentException();
        }
        if (tape.size() + n > TAPE_BYTES) {
            throw new IllegalStateException();
        }
        for (int i = 0; i < n; i++) {
            tape.put((int) (v >>> (8 * i)));
        }
        return tape.size();
    }

    public int add() throws IllegalArgumentException, IllegalStateException {
        readTape();
        if (words.total == 0) {
            throw new IllegalArgumentException();
        }
        if (!collection.hasRoomFor(words)) {
            throw new IllegalStateException();
        }
        return collection.append(words);
    }

    public int clear() {
        return collection.becomeEmpty();
    }

    public int count(int what) throws NoSuchElementException {
        switch (what) {
            case 0:
                return collection.documents;
            case 1:
                return collection.terms;
            case 2:
                return collection.postings;
            case 3:
                return collection.lengthOfAll;
            default:
                throw new NoSuchElementException();
        }
    }

    public double score(int document) throws IllegalArgumentException, NoSuchElementException {
        readTape();
        if (words.total != 1) {
            throw new IllegalArgumentException();
        }
        if (document < 0 || document >= collection.documents) {
            throw new NoSuchElementException();
        }
        return collection.scoreOfTerm(words.term[0], document);
    }

    public int build(int bits, int codec) throws IllegalArgumentException, IllegalStateException {
        if (bits < LEAST_BITS || bits > MOST_BITS || codec < 0 || codec >= CODECS) {
            throw new IllegalArgumentException();
        }
        if (collection.documents == 0) {
            throw new IllegalStateException();
        }
        collection.makeIndex(bits, draft);
        indexFile.write(draft, codec, file);
        return file.size();
    }

    public long file(int k) throws NoSuchElementException {
        requireByte(k);
        return file.eightFrom(k);
    }

    public int spoil(int k, int v) throws NoSuchElementException {
        requireByte(k);
        int before = file.at(k);
        file.set(k, v);
        return before;
    }

    public boolean cut(int n) {
        return file.shorten(n);
    }

    public boolean mend() {
        if (!file.shorten(file.size() - SUM_BYTES)) {
            return false;
        }
        file.putSum();
        return true;
    }

    public int publish() throws IllegalArgumentException, IllegalStateException {
        if (!indexFile.read(file, draft)) {
            throw new IllegalArgumentException();
        }
        int place = generations.placeForNext();
        if (place < 0) {
            throw new IllegalStateException();
        }
        draft = generations.install(place, draft);
        return generations.latest;
    }

    public int open(int reader) throws IllegalArgumentException, IllegalStateException {
        requireReader(reader);
        if (generations.held[reader] != CLOSED) {
            throw new IllegalStateException();
        }
        generations.held[reader] = generations.latest;
        return generations.latest;
    }

    public boolean close(int reader) throws IllegalArgumentException {
        requireReader(reader);
        return generations.release(reader);
    }

    public int query(int reader, int k, int rho, long until) throws IllegalArgumentException, IllegalStateException {
        readTape();
        requireReader(reader);
        if (k < 1 || k > DOCUMENTS || rho < 0) {
            throw new IllegalArgumentException();
        }
        requireOpen(reader);
        Index index = generations.heldBy(reader);
        if (search.pick(index, words) > QUERY_TERMS) {
            throw new IllegalArgumentException();
        }
        search.run(index, k, rho, until, ticks);
        ticks += search.donePostings;
        return search.hits;
    }

    public int hit(int i, int what) throws NoSuchElementException {
        if (i < 0 || i >= search.hits || what < 0 || what > 1) {
            throw new NoSuchElementException();
        }
        int document = search.hitDocument[i];
        return what == 0 ? document : search.sums[document];
    }

    public int sum(int document) throws IllegalArgumentException {
        if (document < 0 || document >= DOCUMENTS) {
            throw new IllegalArgumentException();
        }
        return search.sums[document];
    }

    public int last(int what) throws NoSuchElementException {
        switch (what) {
            case 0:
                return search.terms;
            case 1:
                return search.segments;
            case 2:
                return search.doneSegments;
            case 3:
                return search.donePostings;
            case 4:
                return search.postings;
            case 5:
                return search.why;
            default:
                throw new NoSuchElementException();
        }
    }

    public int plan(int i, int what) throws NoSuchElementException {
        if (i < 0 || i >= search.segments) {
            throw new NoSuchElementException();
        }
        switch (what) {
            case 0:
                return search.planTerm[i];
            case 1:
                return search.planImpact[i];
            case 2:
                return search.planSize[i];
            default:
                throw new NoSuchElementException();
        }
    }

    public boolean exhaustive() {
        return search.agreesByDocument();
    }

    public int look(int what) throws NoSuchElementException {
        switch (what) {
            case 0:
                return generations.latest;
            case 1:
                return generations.howManyKept();
            case 2:
                return file.size();
            case 3:
                return indexFile.read(file, draft) ? 1 : 0;
            case 4:
                return tape.size();
            default:
                throw new NoSuchElementException();
        }
    }

    public int holds(int reader) throws IllegalArgumentException {
        requireReader(reader);
        return generations.held[reader];
    }

    public int index(int reader, int what) throws IllegalArgumentException, IllegalStateException {
        requireReader(reader);
        if (what < 0 || what > 3) {
            throw new IllegalArgumentException();
        }
        requireOpen(reader);
        Index index = generations.heldBy(reader);
        switch (what) {
            case 0:
                return index.documents;
            case 1:
                return index.terms;
            case 2:
                return index.postings;
            default:
                return index.segments;
        }
    }

    public long clock() {
        return ticks;
    }

    // The tape is used up before anything is refused: a call that throws leaves it empty too.
    private void readTape() {
        words.read(tape);
        tape.shorten(0);
    }

    private void requireByte(int k) {
        if (k < 0 || k >= file.size()) {
            throw new NoSuchElementException();
        }
    }

    private void requireReader(int reader) {
        if (reader < 0 || reader >= READERS) {
            throw new IllegalArgumentException();
        }
    }

    private void requireOpen(int reader) {
        if (generations.held[reader] == CLOSED) {
            throw new IllegalStateException();
        }
    }

    /** A row of bytes that grows at its end, with a place up to which it has been read. */
    private static final class Bytes {
        private final byte[] row;
        private int size = 0;
        private int place = 0;

        Bytes(int most) {
            row = new byte[most];
        }

        int size() {
            return size;
        }

        int at(int k) {
            return k >= 0 && k < size ? row[k] & 255 : 0;
        }

        void set(int k, int v) {
            if (k >= 0 && k < size) {
                row[k] = (byte) v;
            }
        }

        void put(int v) {
            if (size < row.length) {
                row[size] = (byte) v;
                size++;
            }
        }

        void putEight(long v) {
            for (int i = 0; i < 8; i++) {
                put((int) (v >>> (8 * i)));
            }
        }

        /** Eight bytes from k (no less than 0) on, with 0s behind the end. */
        long eightFrom(int k) {
            long v = 0;
            // No bytes are asked for beyond the end, where k + i could leave the ints.
            for (int i = 0; i < 8 && k < size - i; i++) {
                v |= (row[k + i] & 255L) << (8 * i);
            }
            return v;
        }

        boolean shorten(int n) {
            if (n < 0 || n > size) {
                return false;
            }
            size = n;
            return true;
        }

        void rewind() {
            place = 0;
        }

        int left() {
            return size - place;
        }

        /** The next byte, or -1 behind the end. */
        int next() {
            if (place >= size) {
                return -1;
            }
            place++;
            return at(place - 1);
        }

        long nextEight() {
            long v = eightFrom(place);
            place = Math.min(place + 8, size);
            return v;
        }

        void putSum() {
            int u = 1;
            int v = 0;
            for (int i = 0; i < size; i++) {
                u = (u + at(i)) % 65521;
                v = (v + u) % 65521;
            }
            put(u);
            put(u >>> 8);
            put(v);
            put(v >>> 8);
        }

        boolean isSameAs(Bytes other) {
            if (size != other.size) {
                return false;
            }
            for (int i = 0; i < size; i++) {
                if (at(i) != other.at(i)) {
                    return false;
                }
            }
            return true;
        }
    }

    /**
     * The words of a text, each once, and how often it has them. A word is held in a long, its first letter
     * in the highest byte and 0s behind the last: so longs are in the same order as the words.
     */
    private static final class Words {
        private static final int MOST = (TAPE_BYTES + 1) / 2;

        final long[] term = new long[MOST];
        final int[] times = new int[MOST];
        int distinct = 0;
        int total = 0;

        void read(Bytes text) {
            distinct = 0;
            total = 0;
            long word = 0;
            int letters = 0;
            // One step beyond the end, where a 0 ends a last word.
            for (int i = 0; i <= text.size(); i++) {
                int letter = letterOf(text.at(i));
                if (letter == 0) {
                    take(word, letters);
                    word = 0;
                    letters = 0;
                } else if (letters < LETTERS) {
                    word |= place(letter, letters);
                    letters++;
                }
            }
        }

        boolean has(long word) {
            return find(word) < distinct;
        }

        private void take(long word, int letters) {
            if (letters == 0) {
                return;
            }
            long stem = withoutPluralS(word, letters);
            int i = find(stem);
            if (i == distinct && distinct < MOST) {
                term[i] = stem;
                times[i] = 0;
                distinct++;
            }
            if (i < distinct) {
                times[i]++;
                total++;
            }
        }

        private int find(long word) {
            for (int i = 0; i < distinct; i++) {
                if (term[i] == word) {
                    return i;
                }
            }
            return distinct;
        }

        private static int letterOf(int character) {
            if (character >= 'A' && character <= 'Z') {
                return character - 'A' + 'a';
            }
            return character >= 'a' && character <= 'z' ? character : 0;
        }

        private static long withoutPluralS(long word, int letters) {
            boolean plural = letters > 3 && letterAt(word, letters - 1) == 's' && letterAt(word, letters - 2) != 's';
            return plural ? word & ~place(255, letters - 1) : word;
        }

        static long place(int letter, int i) {
            return (long) letter << (8 * (LETTERS - 1 - i));
        }

        static int letterAt(long word, int i) {
            return (int) (word >>> (8 * (LETTERS - 1 - i))) & 255;
        }

        static int lettersOf(long word) {
            for (int i = 0; i < LETTERS; i++) {
                if (letterAt(word, i) == 0) {
                    return i;
                }
            }
            return LETTERS;
        }
    }

    /** The documents that are searched: how often each has each term, with the terms in their order. */
    private static final class Collection {
        final long[] term = new long[TERMS];
        final int[] inDocuments = new int[TERMS];
        final int[] times = new int[TERMS * DOCUMENTS];
        final double[] scores = new double[TERMS * DOCUMENTS];
        final int[] impacts = new int[DOCUMENTS];
        final int[] length = new int[DOCUMENTS];
        int documents = 0;
        int terms = 0;
        int postings = 0;
        int lengthOfAll = 0;

        boolean hasRoomFor(Words words) {
            int fresh = 0;
            for (int i = 0; i < words.distinct; i++) {
                if (!hasTermAt(placeOf(words.term[i]), words.term[i])) {
                    fresh++;
                }
            }
            return documents < DOCUMENTS && terms + fresh <= TERMS && postings + words.distinct <= POSTINGS;
        }

        /** Only for words that it has room for. */
        int append(Words words) {
            for (int i = 0; i < words.distinct; i++) {
                int t = placeOf(words.term[i]);
                if (!hasTermAt(t, words.term[i])) {
                    insertTerm(t, words.term[i]);
                }
                times[t * DOCUMENTS + documents] = words.times[i];
                inDocuments[t]++;
            }
            postings += words.distinct;
            length[documents] = words.total;
            lengthOfAll += words.total;
            documents++;
            return documents - 1;
        }

        int becomeEmpty() {
            int before = documents;
            documents = 0;
            terms = 0;
            postings = 0;
            lengthOfAll = 0;
            return before;
        }

        double scoreOfTerm(long word, int document) {
            int t = placeOf(word);
            return hasTermAt(t, word) ? scoreOf(t, document) : 0.0;
        }

        void makeIndex(int bits, Index out) {
            scoreAll();
            out.start(bits, documents);
            double least = leastScore();
            double most = greatestScore();
            for (int t = 0; t < terms; t++) {
                for (int d = 0; d < documents; d++) {
                    int p = t * DOCUMENTS + d;
                    impacts[d] = isPosting(p) ? impactOf(scores[p], least, most, (1 << bits) - 1) : 0;
                }
                out.appendTerm(term[t], impacts);
            }
        }

        private int placeOf(long word) {
            for (int t = 0; t < terms; t++) {
                if (term[t] >= word) {
                    return t;
                }
            }
            return terms;
        }

        private boolean hasTermAt(int t, long word) {
            return t < terms && term[t] == word;
        }

        private void insertTerm(int place, long word) {
            for (int t = terms; t > place; t--) {
                term[t] = term[t - 1];
                inDocuments[t] = inDocuments[t - 1];
                System.arraycopy(times, (t - 1) * DOCUMENTS, times, t * DOCUMENTS, DOCUMENTS);
            }
            term[place] = word;
            inDocuments[place] = 0;
            for (int d = 0; d < DOCUMENTS; d++) {
                times[place * DOCUMENTS + d] = 0;
            }
            terms++;
        }

        private void scoreAll() {
            for (int t = 0; t < terms; t++) {
                for (int d = 0; d < documents; d++) {
                    scores[t * DOCUMENTS + d] = scoreOf(t, d);
                }
            }
        }

        private double scoreOf(int t, int d) {
            int tf = times[t * DOCUMENTS + d];
            // Where there is a posting none of the others is 0; they are looked at because they divide.
            if (tf == 0 || inDocuments[t] == 0 || documents == 0 || lengthOfAll == 0) {
                return 0.0;
            }
            double mean = (double) lengthOfAll / documents;
            double weight = 1.9 * tf / (0.9 * (0.6 + 0.4 * length[d] / mean) + tf);
            return logarithm((double) documents / inDocuments[t]) * weight;
        }

        private double leastScore() {
            double least = -1.0;
            for (int p = 0; p < terms * DOCUMENTS; p++) {
                if (isPosting(p) && (least < 0 || scores[p] < least)) {
                    least = scores[p];
                }
            }
            return least;
        }

        private double greatestScore() {
            double most = -1.0;
            for (int p = 0; p < terms * DOCUMENTS; p++) {
                if (isPosting(p) && scores[p] > most) {
                    most = scores[p];
                }
            }
            return most;
        }

        private boolean isPosting(int p) {
            return times[p] > 0;
        }

        private static int impactOf(double score, double least, double most, int q) {
            if (most == least) {
                return q;
            }
            return (int) (1 + (score - least) * (q - 1) / (most - least) + 0.5);
        }

        private static double logarithm(double number) {
            double x = number;
            int e = 0;
            while (x >= 2 && e < 1100) {
                x = x / 2;
                e++;
            }
            double y = (x - 1) / (x + 1);
            double t = y;
            double s = 0;
            for (int k = 1; k <= 23; k += 2) {
                s += t / k;
                t = t * y * y;
            }
            return 2 * s + e * 0.6931471805599453;
        }
    }

    /** An index: its terms' segments one behind the other, and the segments' documents likewise. */
    private static final class Index {
        final long[] term = new long[TERMS];
        final int[] firstSegment = new int[TERMS + 1];
        final int[] impact = new int[POSTINGS];
        final int[] firstPosting = new int[POSTINGS + 1];
        final int[] document = new int[POSTINGS];
        int bits = 0;
        int documents = 0;
        int terms = 0;
        int segments = 0;
        int postings = 0;

        void start(int bitsOfImpact, int documentsOfAll) {
            bits = bitsOfImpact;
            documents = documentsOfAll;
            terms = 0;
            segments = 0;
            postings = 0;
        }

        boolean startTerm(long word) {
            if (terms >= TERMS) {
                return false;
            }
            term[terms] = word;
            terms++;
            firstSegment[terms] = segments;
            return true;
        }

        boolean startSegment(int impactOfAll) {
            if (segments >= POSTINGS) {
                return false;
            }
            impact[segments] = impactOfAll;
            segments++;
            firstSegment[terms] = segments;
            firstPosting[segments] = postings;
            return true;
        }

        boolean appendPosting(int d) {
            if (postings >= POSTINGS) {
                return false;
            }
            document[postings] = d;
            postings++;
            firstPosting[segments] = postings;
            return true;
        }

        /** A term with the impact that each document has for it, 0 where it has none. */
        void appendTerm(long word, int[] impacts) {
            startTerm(word);
            int next = greatestBelow(1 << bits, impacts);
            for (int s = 0; s < documents && next > 0; s++) {
                startSegment(next);
                for (int d = 0; d < documents; d++) {
                    if (impacts[d] == next) {
                        appendPosting(d);
                    }
                }
                next = greatestBelow(next, impacts);
            }
        }

        int size(int segment) {
            return firstPosting[segment + 1] - firstPosting[segment];
        }

        long greatestTerm() {
            return terms == 0 ? 0 : term[terms - 1];
        }

        private int greatestBelow(int bound, int[] impacts) {
            int greatest = 0;
            for (int d = 0; d < documents; d++) {
                if (impacts[d] < bound && impacts[d] > greatest) {
                    greatest = impacts[d];
                }
            }
            return greatest;
        }
    }

    /** The gaps of one segment, and the three codecs that write and read them. */
    private static final class Gaps {
        private static final int MOST_GAP_BITS = 6;

        final int[] gap = new int[DOCUMENTS];
        int many = 0;

        void take(Index index, int segment) {
            int first = index.firstPosting[segment];
            many = Math.min(index.size(segment), DOCUMENTS);
            int before = -1;
            for (int i = 0; i < many; i++) {
                gap[i] = index.document[first + i] - before - 1;
                before = index.document[first + i];
            }
        }

        void write(int codec, Bytes out) {
            switch (codec) {
                case 0:
                    writeSevens(out);
                    break;
                case 1:
                    writeWords(out);
                    break;
                default:
                    writeEven(out);
                    break;
            }
        }

        boolean read(int codec, int howMany, Bytes in) {
            many = howMany;
            switch (codec) {
                case 0:
                    return readSevens(in);
                case 1:
                    return readWords(in);
                default:
                    return readEven(in);
            }
        }

        // A gap is below 40, so that its lowest seven bits are all of it.
        private void writeSevens(Bytes out) {
            for (int i = 0; i < many; i++) {
                out.put(gap[i] + 128);
            }
        }

        private boolean readSevens(Bytes in) {
            for (int i = 0; i < many; i++) {
                int next = in.next();
                if (next < 128) {
                    return false;
                }
                gap[i] = next - 128;
            }
            return true;
        }

        private void writeWords(Bytes out) {
            int done = 0;
            for (int word = 0; word < many && done < many; word++) {
                int way = leastWay(done);
                int taken = Math.min(WAY_GAPS[way], many - done);
                long packed = way;
                for (int i = 0; i < taken; i++) {
                    packed |= (long) gap[done + i] << (4 + i * WAY_BITS[way]);
                }
                out.putEight(packed);
                done += taken;
            }
        }

        private boolean readWords(Bytes in) {
            int done = 0;
            for (int word = 0; word < many && done < many; word++) {
                if (in.left() < 8) {
                    return false;
                }
                long packed = in.nextEight();
                int way = (int) (packed & 15);
                if (way >= WAY_GAPS.length) {
                    return false;
                }
                int taken = Math.min(WAY_GAPS[way], many - done);
                for (int i = 0; i < taken; i++) {
                    long next = (packed >>> (4 + i * WAY_BITS[way])) & ((1L << WAY_BITS[way]) - 1);
                    if (next >= DOCUMENTS) {
                        return false;
                    }
                    gap[done + i] = (int) next;
                }
                done += taken;
            }
            return true;
        }

        private int leastWay(int from) {
            int last = WAY_GAPS.length - 1;
            for (int way = 0; way < last; way++) {
                int all = 0;
                for (int i = from; i < many && i < from + WAY_GAPS[way]; i++) {
                    all |= gap[i];
                }
                if (all >> WAY_BITS[way] == 0) {
                    return way;
                }
            }
            return last;
        }

        private void writeEven(Bytes out) {
            int width = bitsOfGreatest();
            out.put(width);
            int held = 0;
            int bits = 0;
            for (int i = 0; i < many; i++) {
                held |= gap[i] << bits;
                bits += width;
                if (bits >= 8) {
                    out.put(held);
                    held >>>= 8;
                    bits -= 8;
                }
            }
            if (bits > 0) {
                out.put(held);
            }
        }

        private boolean readEven(Bytes in) {
            int width = in.next();
            if (width < 0 || width > MOST_GAP_BITS) {
                return false;
            }
            int held = 0;
            int bits = 0;
            for (int i = 0; i < many; i++) {
                if (bits < width) {
                    int next = in.next();
                    if (next < 0) {
                        return false;
                    }
                    held |= next << bits;
                    bits += 8;
                }
                gap[i] = held & ((1 << width) - 1);
                held >>>= width;
                bits -= width;
            }
            return true;
        }

        private int bitsOfGreatest() {
            int all = 0;
            for (int i = 0; i < many; i++) {
                all |= gap[i];
            }
            int bits = 0;
            while (bits < 31 && all >> bits != 0) {
                bits++;
            }
            return bits;
        }
    }

    /** Writes an index as a row of bytes, and reads it back from one that is right. */
    private static final class IndexFile {
        private final Gaps gaps = new Gaps();
        private final Bytes proof = new Bytes(FILE_BYTES);

        void write(Index index, int codec, Bytes out) {
            out.shorten(0);
            out.put(73);
            out.put(109);
            out.put(index.bits);
            out.put(codec);
            out.put(index.documents);
            out.put(index.terms);
            for (int t = 0; t < index.terms; t++) {
                writeTerm(index, t, codec, out);
            }
            out.putSum();
        }

        /** Whether the row is right; if it is, the index is the one whose file it is. */
        boolean read(Bytes in, Index out) {
            in.rewind();
            in.next();
            in.next();
            int bits = in.next();
            int codec = in.next();
            int documents = in.next();
            int terms = in.next();
            if (!isWithin(bits, LEAST_BITS, MOST_BITS) || !isWithin(codec, 0, CODECS - 1)
                    || !isWithin(documents, 1, DOCUMENTS) || !isWithin(terms, 1, TERMS)) {
                return false;
            }
            out.start(bits, documents);
            for (int t = 0; t < terms; t++) {
                if (!readTerm(in, codec, out)) {
                    return false;
                }
            }
            // What was read may have been told another way than the document's, or have more behind it:
            // only the same index written again shows that each byte, the sum's too, is as it must be.
            write(out, codec, proof);
            return proof.isSameAs(in);
        }

        private void writeTerm(Index index, int t, int codec, Bytes out) {
            int letters = Words.lettersOf(index.term[t]);
            out.put(letters);
            for (int i = 0; i < letters; i++) {
                out.put(Words.letterAt(index.term[t], i));
            }
            out.put(index.firstSegment[t + 1] - index.firstSegment[t]);
            for (int s = index.firstSegment[t]; s < index.firstSegment[t + 1]; s++) {
                out.put(index.impact[s]);
                out.put(index.size(s));
                gaps.take(index, s);
                gaps.write(codec, out);
            }
        }

        private boolean readTerm(Bytes in, int codec, Index out) {
            long word = readWord(in);
            if (word <= out.greatestTerm() || !out.startTerm(word)) {
                return false;
            }
            int segments = in.next();
            if (segments < 1) {
                return false;
            }
            int above = 1 << out.bits;
            long seen = 0;
            for (int s = 0; s < segments; s++) {
                int impact = in.next();
                int many = in.next();
                if (!isWithin(impact, 1, above - 1) || !isWithin(many, 1, DOCUMENTS)
                        || !gaps.read(codec, many, in) || !out.startSegment(impact)) {
                    return false;
                }
                long documents = appendDocuments(out);
                if (documents == 0 || (documents & seen) != 0) {
                    return false;
                }
                seen |= documents;
                above = impact;
            }
            return true;
        }

        /** The word that comes next, or 0 where there is none. */
        private static long readWord(Bytes in) {
            int letters = in.next();
            if (!isWithin(letters, 1, LETTERS)) {
                return 0;
            }
            long word = 0;
            for (int i = 0; i < letters; i++) {
                int letter = in.next();
                if (!isWithin(letter, 'a', 'z')) {
                    return 0;
                }
                word |= Words.place(letter, i);
            }
            return word;
        }

        /** A bit for each document that the gaps tell of, or 0 where they can't be an index's. */
        private long appendDocuments(Index out) {
            long documents = 0;
            int document = -1;
            for (int i = 0; i < gaps.many; i++) {
                document += gaps.gap[i] + 1;
                if (document >= out.documents || !out.appendPosting(document)) {
                    return 0;
                }
                documents |= 1L << document;
            }
            return documents;
        }

        private static boolean isWithin(int number, int least, int most) {
            return number >= least && number <= most;
        }
    }

    /** The generations that are kept, and which of them each reader holds. */
    private static final class Generations {
        private final Index[] kept = new Index[KEPT];
        private final int[] number = new int[KEPT];
        private final Index empty = new Index();
        final int[] held = new int[READERS];
        int latest = 0;

        Generations() {
            for (int i = 0; i < KEPT; i++) {
                kept[i] = new Index();
            }
            for (int r = 0; r < READERS; r++) {
                held[r] = CLOSED;
            }
        }

        /** Where the next generation goes, or -1: the place of the latest if nobody holds it, or a free one. */
        int placeForNext() {
            for (int i = 0; i < KEPT; i++) {
                if (number[i] != 0 && !isHeld(number[i])) {
                    return i;
                }
            }
            for (int i = 0; i < KEPT; i++) {
                if (number[i] == 0) {
                    return i;
                }
            }
            return -1;
        }

        /** Takes an index in as the latest generation, and gives back the one that stood in its place. */
        Index install(int place, Index next) {
            Index before = kept[place];
            latest++;
            kept[place] = next;
            number[place] = latest;
            return before;
        }

        boolean release(int reader) {
            int before = held[reader];
            if (before == CLOSED) {
                return false;
            }
            held[reader] = CLOSED;
            if (before != latest && !isHeld(before)) {
                forget(before);
            }
            return true;
        }

        Index heldBy(int reader) {
            for (int i = 0; i < KEPT; i++) {
                if (number[i] != 0 && number[i] == held[reader]) {
                    return kept[i];
                }
            }
            return empty;
        }

        int howManyKept() {
            int many = 0;
            for (int i = 0; i < KEPT; i++) {
                if (number[i] != 0) {
                    many++;
                }
            }
            return many;
        }

        private void forget(int generation) {
            for (int i = 0; i < KEPT; i++) {
                if (number[i] == generation) {
                    number[i] = 0;
                }
            }
        }

        private boolean isHeld(int generation) {
            for (int r = 0; r < READERS; r++) {
                if (held[r] == generation) {
                    return true;
                }
            }
            return false;
        }
    }

    /** The latest query. It holds all that is asked of it later itself: its generation may be gone by then. */
    private static final class Search {
        private static final int MOST_SEGMENTS = QUERY_TERMS * DOCUMENTS;

        private final int[] picked = new int[QUERY_TERMS];
        private final int[] planSegment = new int[MOST_SEGMENTS];
        private final int[] impactOf = new int[QUERY_TERMS * DOCUMENTS];
        final int[] planTerm = new int[MOST_SEGMENTS];
        final int[] planImpact = new int[MOST_SEGMENTS];
        final int[] planSize = new int[MOST_SEGMENTS];
        final int[] sums = new int[DOCUMENTS];
        final int[] hitDocument = new int[DOCUMENTS];
        private int pickedTerms = 0;
        int terms = 0;
        int segments = 0;
        int doneSegments = 0;
        int donePostings = 0;
        int postings = 0;
        int why = 0;
        int hits = 0;

        /** Picks the terms for a run that may follow, and leaves the latest query as it is: how many there are. */
        int pick(Index index, Words words) {
            int found = 0;
            for (int t = 0; t < index.terms; t++) {
                if (words.has(index.term[t])) {
                    if (found < QUERY_TERMS) {
                        picked[found] = t;
                    }
                    found++;
                }
            }
            pickedTerms = Math.min(found, QUERY_TERMS);
            return found;
        }

        /** Runs a query for the terms that were picked from this index. */
        void run(Index index, int most, int rho, long until, long now) {
            makePlan(index);
            workThrough(index, rho, until, now);
            rank(most);
        }

        boolean agreesByDocument() {
            for (int d = 0; d < DOCUMENTS; d++) {
                int sumOfDocument = 0;
                for (int t = 0; t < terms; t++) {
                    int impact = impactOf[t * DOCUMENTS + d];
                    sumOfDocument += isDone(t, impact) ? impact : 0;
                }
                if (sumOfDocument != sums[d]) {
                    return false;
                }
            }
            return true;
        }

        private void makePlan(Index index) {
            terms = pickedTerms;
            segments = 0;
            postings = 0;
            Arrays.fill(impactOf, 0);
            for (int t = 0; t < terms; t++) {
                for (int s = index.firstSegment[picked[t]]; s < index.firstSegment[picked[t] + 1]; s++) {
                    planOne(index, t, s);
                }
            }
        }

        // Terms come in their order, and none has an impact twice: a segment goes behind all that are its equals.
        private void planOne(Index index, int t, int segment) {
            if (segments >= MOST_SEGMENTS) {
                return;
            }
            int impact = index.impact[segment];
            int size = index.size(segment);
            int place = segments;
            while (place > 0 && comesAhead(impact, size, place - 1)) {
                planTerm[place] = planTerm[place - 1];
                planImpact[place] = planImpact[place - 1];
                planSize[place] = planSize[place - 1];
                planSegment[place] = planSegment[place - 1];
                place--;
            }
            planTerm[place] = t;
            planImpact[place] = impact;
            planSize[place] = size;
            planSegment[place] = segment;
            segments++;
            postings += size;
            for (int p = index.firstPosting[segment]; p < index.firstPosting[segment + 1]; p++) {
                impactOf[t * DOCUMENTS + index.document[p]] = impact;
            }
        }

        private boolean comesAhead(int impact, int size, int i) {
            return impact > planImpact[i] || impact == planImpact[i] && size < planSize[i];
        }

        private void workThrough(Index index, int rho, long until, long now) {
            doneSegments = 0;
            donePostings = 0;
            Arrays.fill(sums, 0);
            while (doneSegments < segments && donePostings < rho && now + donePostings < until) {
                int segment = planSegment[doneSegments];
                for (int p = index.firstPosting[segment]; p < index.firstPosting[segment + 1]; p++) {
                    sums[index.document[p]] += index.impact[segment];
                }
                donePostings += index.size(segment);
                doneSegments++;
            }
            why = doneSegments == segments ? 0 : donePostings >= rho ? 1 : 2;
        }

        private void rank(int most) {
            int found = 0;
            for (int d = 0; d < DOCUMENTS; d++) {
                if (sums[d] > 0) {
                    int place = found;
                    while (place > 0 && sums[hitDocument[place - 1]] < sums[d]) {
                        hitDocument[place] = hitDocument[place - 1];
                        place--;
                    }
                    hitDocument[place] = d;
                    found++;
                }
            }
            hits = Math.min(found, most);
        }

        private boolean isDone(int t, int impact) {
            for (int i = 0; i < doneSegments; i++) {
                if (planTerm[i] == t && planImpact[i] == impact) {
                    return true;
                }
            }
            return false;
        }
    }
}
