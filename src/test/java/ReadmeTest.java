/** The example of README.md, call by call; the due values were worked out by hand. */
public final class ReadmeTest {
    private ReadmeTest() {
    }

    public static void main(String[] args) {
        LibraryVan van = new LibraryVan();
        tellTheVan(van);
        lookAhead(van);
        letDaysGoBy(van);
        Check.end();
    }

    private static void tellTheVan(LibraryVan van) {
        Check.equal("README: addHalt() of the home", van.addHalt(), 0);
        Check.equal("README: addHalt() of the next", van.addHalt(), 1);
        Check.equal("README: addHalt() of the last", van.addHalt(), 2);
        Check.equal("README: addLane(0, 1, 10, 4)", van.addLane(0, 1, 10, 4), 0);
        Check.equal("README: addLane(1, 2, 20, 9)", van.addLane(1, 2, 20, 9), 1);
        Check.equal("README: addBook(3)", van.addBook(3), 0);
        Check.equal("README: addBook(3) again", van.addBook(3), 1);
        Check.equal("README: addReader(1, 3, 7)", van.addReader(1, 3, 7), 0);
        Check.equal("README: addReader(2, 5, 20)", van.addReader(2, 5, 20), 1);
        Check.equal("README: reserve(1, 0)", van.reserve(1, 0), 1);
        Check.equal("README: setRain(1, 8)", van.setRain(1, 8), 0);
        Check.equal("README: setRound(2, 90)", van.setRound(2, 90), 1);
        Check.refusedIndex(van, "README: addReader(3, 9, 7)", () -> van.addReader(3, 9, 7));
    }

    private static void lookAhead(LibraryVan van) {
        Check.equal("README: way(0, 2)", van.way(0, 2), 30);
        Check.equal("README: gets(1, 0) without the halt 2", van.gets(1, 0), -1);
        Check.equal("README: advise(7)", van.advise(7), 2);
        Check.equal("README: setRound(23, 90)", van.setRound(23, 90), 2);
        Check.equal("README: gets(1, 0) with the halt 2", van.gets(1, 0), 1);
    }

    private static void letDaysGoBy(LibraryVan van) {
        Check.equal("README: pass(2)", van.pass(2), 2);
        Check.equal("README: way(0, 2) in the mud", van.way(0, 2), -1);
        Check.equal("README: halt(2, 4)", van.halt(2, 4), 1);
        Check.equal("README: book(0, 1)", van.book(0, 1), 1);
        Check.equal("README: foresee(30, 3)", van.foresee(30, 3), 6);
        Check.equal("README: pass(30)", van.pass(30), 1);
        Check.equal("README: pay(1, 4)", van.pay(1, 4), 2);
        Check.equal("README: daily()", van.daily(), 0.09375);
    }
}
