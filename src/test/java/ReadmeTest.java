/** The calls that README.md shows, one behind the other on one shelf, with the answers that it tells. */
public final class ReadmeTest {
    private ReadmeTest() {
    }

    public static void main(String[] args) {
        ImpactShelf shelf = published();
        queried(shelf);
        spoiled(shelf);
        Checks.end("ReadmeTest");
    }

    private static ImpactShelf published() {
        ImpactShelf shelf = new ImpactShelf();
        shelf.feed(3, 0x74616FL);
        Checks.same("oat is document 0", shelf.add(), 0);
        shelf.feed(3, 0x657972L);
        Checks.same("rye is document 1", shelf.add(), 1);
        shelf.build(4, 1);
        Checks.same("generation 1", shelf.publish(), 1);
        Checks.same("reader 0 holds it", shelf.open(0), 1);
        return shelf;
    }

    private static void queried(ImpactShelf shelf) {
        shelf.feed(3, 0x74616FL);
        Checks.same("one hit", shelf.query(0, 10, 1000, Long.MAX_VALUE), 1);
        Checks.same("document 0", shelf.hit(0, 0), 0);
        Checks.same("with 15", shelf.hit(0, 1), 15);
    }

    private static void spoiled(ImpactShelf shelf) {
        Checks.same("there were two documents", shelf.spoil(4, 1), 2);
        Checks.isTrue("the sum is mended", shelf.mend());
        Checks.same("the file is not right", shelf.look(3), 0);
        Checks.refuses("it is not published", Checks.ARGUMENT, shelf::publish);
        Checks.same("the generation stays", shelf.look(0), 1);
        Checks.same("the hit stays", shelf.hit(0, 1), 15);
    }
}
