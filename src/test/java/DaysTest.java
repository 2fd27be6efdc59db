/** Promises 16 and 17: days, how a halt is served, and the counts. */
public final class DaysTest {
    private DaysTest() {
    }

    public static void main(String[] args) {
        promise16Pass();
        booksComeBack();
        lateBooks();
        backAheadOfLending();
        reservedAheadOfOthers();
        reservedByFirstAlone();
        atMostThree();
        threeByReservation();
        othersReaderByReader();
        nothingReadTwice();
        servedTwiceInADay();
        promise17Count();
        promise17Minutes();
        Check.end();
    }

    private static LibraryVan atHome() {
        return BooksAndReadersTest.atHome();
    }

    private static void promise16Pass() {
        LibraryVan van = atHome();
        van.addBook(0);
        van.addBook(0);
        van.addReader(0, 0, 30);
        Check.equal("16: a loan on the first day", van.pass(1), 1);
        Check.equal("16: a loan on the second", van.pass(2), 1);
        Check.equal("16: none later", van.pass(60), 0);
        Check.equal("16: the day", van.count(0), 63);
        Check.refusedArgument(van, "16: 0 days", () -> van.pass(0));
        Check.refusedArgument(van, "16: -1 days", () -> van.pass(-1));
        Check.refusedArgument(van, "16: 61 days", () -> van.pass(61));
        Check.refusedArgument(van, "16: the most", () -> van.pass(Integer.MAX_VALUE));
    }

    private static void booksComeBack() {
        LibraryVan van = atHome();
        van.addBook(0);
        van.addReader(0, 0, 3);
        van.pass(3);
        Check.equal("16: had for 2 days, at the end of the day 2", van.book(0, 1), 0);
        van.pass(1);
        Check.equal("16: back on the day 3", van.book(0, 1), -1);
        Check.equal("16: since no day", van.book(0, 2), -1);
        Check.equal("16: the reader has none", van.reader(0, 3), 0);
        Check.equal("16: but has read one", van.reader(0, 4), 1);
    }

    private static void lateBooks() {
        int[] keeps = {14, 15, 30};
        int[] due = {0, 1, 16};
        for (int i = 0; i < keeps.length; i++) {
            LibraryVan van = atHome();
            van.addBook(0);
            van.addReader(0, 0, keeps[i]);
            van.pass(keeps[i]);
            Check.equal("16: nothing owed yet", van.reader(0, 5), 0);
            van.pass(1);
            Check.equal("16: owed for " + keeps[i] + " days", van.reader(0, 5), due[i]);
        }
        LibraryVan van = atHome();
        van.addBook(0);
        van.addReader(0, 0, 2);
        van.pass(1);
        van.setRound(0, 300);
        van.pass(19);
        Check.equal("16: kept longer without the van", van.book(0, 1), 0);
        van.setRound(1, 300);
        van.pass(1);
        Check.equal("16: owed for 20 days though 2 were meant", van.reader(0, 5), 6);
    }

    /** The reader 1 brings the book back, and the reader 0 gets it at the same halt. */
    private static void backAheadOfLending() {
        LibraryVan van = atHome();
        van.addBook(0);
        van.addReader(0, 5, 4);
        van.addReader(0, 0, 1);
        van.pass(1);
        van.reserve(0, 0);
        Check.equal("16: back and lent on one day", van.pass(1), 1);
        Check.equal("16: to the reader 0", van.book(0, 1), 0);
        Check.equal("16: since that day", van.book(0, 2), 1);
    }

    private static void reservedAheadOfOthers() {
        LibraryVan van = atHome();
        van.addBook(0);
        van.addBook(0);
        van.addReader(0, 0, 9);
        van.addReader(0, 5, 9);
        van.reserve(1, 0);
        van.pass(1);
        Check.equal("16: the reserved one", van.book(0, 1), 1);
        Check.equal("16: the other one", van.book(1, 1), 0);
        LibraryVan both = atHome();
        both.addBook(3);
        both.addBook(0);
        both.addReader(0, 0, 9);
        both.reserve(0, 0);
        Check.equal("16: a reserved one and another on a day", both.pass(1), 2);
    }

    /** The first of the queue comes to a halt that is not served: the book waits on the van. */
    private static void reservedByFirstAlone() {
        LibraryVan van = atHome();
        van.addHalt();
        van.addBook(0);
        van.addReader(0, 0, 9);
        van.addReader(1, 0, 9);
        van.reserve(1, 0);
        van.reserve(0, 0);
        Check.equal("16: it waits for the first", van.pass(5), 0);
        Check.equal("16: on the van", van.book(0, 1), -1);
        van.cancel(1, 0);
        Check.equal("16: now for the next", van.pass(1), 1);
        Check.equal("16: who has it", van.book(0, 1), 0);
        Check.equal("16: and left the queue", van.book(0, 3), 0);
        LibraryVan waits = atHome();
        waits.addBook(0);
        waits.addReader(0, 0, 9);
        waits.addHalt();
        waits.addReader(1, 5, 9);
        waits.reserve(1, 0);
        Check.equal("16: not lent past the queue", waits.pass(9), 0);
    }

    private static void atMostThree() {
        LibraryVan van = atHome();
        for (int i = 0; i < 6; i++) {
            van.addBook(0);
        }
        van.addReader(0, 0, 30);
        for (int day = 0; day < 3; day++) {
            Check.equal("16: one of the shelf a day", van.pass(1), 1);
            Check.equal("16: the smallest number", van.book(day, 1), 0);
        }
        Check.equal("16: not a fourth", van.pass(1), 0);
        van.reserve(0, 5);
        Check.equal("16: nor a reserved fourth", van.pass(1), 0);
        Check.equal("16: still in the queue", van.book(5, 4), 0);
        van.pass(25);
        Check.equal("16: two loans when one is back", van.pass(1), 1);
        Check.equal("16: the reserved one ahead", van.book(5, 1), 0);
    }

    private static void threeByReservation() {
        LibraryVan van = atHome();
        for (int i = 0; i < 5; i++) {
            van.addBook(1);
        }
        van.addReader(0, 1, 9);
        for (int book = 4; book >= 0; book--) {
            van.reserve(0, book);
        }
        Check.equal("16: three reserved ones on a day", van.pass(1), 3);
        for (int book = 0; book < 5; book++) {
            Check.equal("16: book by book", van.book(book, 1), book < 3 ? 0 : -1);
        }
        Check.equal("16: two in queues", van.reader(0, 6), 2);
    }

    private static void othersReaderByReader() {
        LibraryVan van = atHome();
        van.addBook(2);
        van.addBook(1);
        van.addBook(1);
        van.addReader(0, 1, 9);
        van.addReader(0, 1, 9);
        van.addReader(0, 1, 9);
        Check.equal("16: two of the shelf", van.pass(1), 2);
        Check.equal("16: the reader 0 first", van.book(1, 1), 0);
        Check.equal("16: then the reader 1", van.book(2, 1), 1);
        Check.equal("16: of another shelf none", van.book(0, 1), -1);
        Check.equal("16: none for the last", van.reader(2, 3), 0);
    }

    private static void nothingReadTwice() {
        LibraryVan van = atHome();
        van.addBook(0);
        van.addReader(0, 0, 1);
        Check.equal("16: read once", van.pass(30), 1);
        van.reserve(0, 0);
        Check.equal("16: again when reserved", van.pass(30), 1);
        Check.equal("16: loans of the book", van.book(0, 5), 2);
        Check.equal("16: read by one", van.book(0, 6), 1);
    }

    private static void servedTwiceInADay() {
        LibraryVan van = atHome();
        for (int i = 0; i < 4; i++) {
            van.addBook(0);
        }
        van.addReader(0, 0, 1);
        van.setRound(11, 300);
        Check.equal("16: a loan each time", van.pass(1), 2);
        Check.equal("16: nothing back on the same day", van.reader(0, 3), 2);
        Check.equal("16: two back, two lent", van.pass(1), 2);
        Check.equal("16: has the last two", van.reader(0, 3), 2);
        Check.equal("16: the first is back", van.book(0, 1), -1);
        Check.equal("16: minutes at home", van.count(9), 10);
    }

    private static void promise17Count() {
        LibraryVan van = atHome();
        van.addHalt();
        van.addHalt();
        van.addLane(0, 1, 4, 9);
        van.addLane(0, 2, 4, 9);
        van.addLane(1, 2, 4, 0);
        for (int i = 0; i < 5; i++) {
            van.addBook(i % 2);
        }
        van.addReader(0, 0, 16);
        van.addReader(0, 1, 17);
        van.pass(13);
        van.setRain(3, 9);
        van.pass(5);
        int[] due = {18, 3, 3, 5, 2, 3, 5, 7, 2, 5};
        for (int what = 0; what < due.length; what++) {
            Check.equal("17: count(" + what + ")", van.count(what), due[what]);
        }
        Check.refusedIndex(van, "17: what -1", () -> van.count(-1));
        Check.refusedIndex(van, "17: what 10", () -> van.count(10));
    }

    private static void promise17Minutes() {
        LibraryVan van = HaltsAndRoundTest.withHalts(3);
        van.addLane(0, 1, 7, 0);
        van.addLane(1, 2, 11, 0);
        van.setRound(23, 300);
        Check.equal("17: ahead of the first day", van.count(9), 0);
        van.pass(1);
        Check.equal("17: there and home", van.count(9), 7 + 5 + 11 + 5 + 18);
        van.addLane(0, 2, 1, 0);
        van.setRound(0, 300);
        Check.equal("17: of the latest day still", van.count(9), 46);
        van.foresee(9, 0);
        Check.equal("17: not of days to come", van.count(9), 46);
        van.pass(1);
        Check.equal("17: none on an empty round", van.count(9), 0);
        van.setRound(3, 300);
        van.pass(3);
        Check.equal("17: of the latest day alone", van.count(9), 7);
        van.setRound(3, 10);
        van.addLane(0, 2, 1, 0);
        van.pass(1);
        Check.equal("17: 7 of 10 minutes", van.count(9), 7);
    }
}
