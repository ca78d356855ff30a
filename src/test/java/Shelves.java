/** Shelves in the states that tests begin with, each made anew. */
final class Shelves {
    static final long EVER = Long.MAX_VALUE;

    private static final String LETTERS = "a b c d e f g h i j k l m n o p q r s t u v w x ";

    private Shelves() {
    }

    /** Words of two letters, from the first'th on, each another one. */
    static String twoLetterWords(int first, int many) {
        StringBuilder all = new StringBuilder();
        for (int i = first; i < first + many; i++) {
            all.append((char) ('a' + i / 26)).append((char) ('a' + i % 26)).append(' ');
        }
        return all.toString();
    }

    /** Words of eight letters, each another one, the s nowhere. */
    static String eightLetterWords(int many) {
        StringBuilder all = new StringBuilder();
        for (int i = 0; i < many; i++) {
            all.append("wwwwww").append((char) ('a' + i / 16)).append((char) ('a' + i % 16)).append(' ');
        }
        return all.toString();
    }

    /** As many documents, each the one word a. */
    static ImpactShelf documents(int many) {
        ImpactShelf x = new ImpactShelf();
        for (int d = 0; d < many; d++) {
            Checks.add(x, "a");
        }
        return x;
    }

    /** One document of as many terms. */
    static ImpactShelf terms(int many) {
        return Checks.shelfOf(twoLetterWords(0, many));
    }

    /** Documents of the terms a .. x, the last one of as many of them as are left. */
    static ImpactShelf postings(int many) {
        ImpactShelf x = new ImpactShelf();
        for (int left = many; left > 0; left -= 24) {
            Checks.add(x, LETTERS.substring(0, 2 * Math.min(left, 24)));
        }
        return x;
    }

    /**
     * Terms bean (0), fig (1), oat (2), rye (3); with four bits and by hand: bean 15 in document 2;
     * fig 4 in 3, 3 in 1 and 4; oat 2 in 0 and 1, 1 in 2 and 4; rye 5 in 3, 4 in 5, 3 in 0.
     */
    static ImpactShelf sixDocuments() {
        return Checks.shelfOf("oat rye oat", "oat oat fig", "oat bean bean bean", "rye fig fig rye rye rye", "oat fig",
            "rye");
    }

    /** Six documents, published as generation 1, which a reader holds. */
    static ImpactShelf opened(int reader) {
        ImpactShelf x = sixDocuments();
        x.build(4, 0);
        x.publish();
        x.open(reader);
        return x;
    }

    /**
     * Reader 0 holds generation 1 and reader 1 generation 2, the latest is 3; a query ended ahead of its end; the
     * collection, the file and the generations are all of another kind; the tape is empty.
     */
    static ImpactShelf busy() {
        ImpactShelf x = opened(0);
        Checks.add(x, "hop oat");
        x.build(3, 1);
        x.publish();
        x.open(1);
        x.publish();
        Checks.query(x, "oat fig rye bean", 0, 3, 6, EVER);
        x.build(5, 2);
        Checks.add(x, "wheat");
        return x;
    }

    static ImpactShelf busyWithTape() {
        ImpactShelf x = busy();
        Checks.tape(x, "figs HOP");
        return x;
    }

    /** A shelf whose file is these bytes, joined by commas, and their sum. */
    static ImpactShelf ofFile(String bytes) {
        String[] all = bytes.split(",");
        // A term of eight letters in one document makes thirteen bytes of a file.
        ImpactShelf x = Checks.shelfOf(eightLetterWords(all.length / 13 + 1));
        x.build(2, 0);
        x.cut(all.length + 4);
        for (int k = 0; k < all.length; k++) {
            x.spoil(k, Integer.parseInt(all[k]));
        }
        x.mend();
        return x;
    }

    /** A shelf whose file is these bytes and their sum, published as generation 1, which reader 0 holds. */
    static ImpactShelf ofGeneration(String bytes) {
        ImpactShelf x = ofFile(bytes);
        x.publish();
        x.open(0);
        return x;
    }
}
