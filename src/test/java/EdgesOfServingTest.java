/**
 * The edges that the document names for the serving of a halt: a test for each sentence, which
 * stands ahead of it. All of them are sentences of the Terms, and so of promise 16.
 */
public final class EdgesOfServingTest {
    private EdgesOfServingTest() {
    }

    public static void main(String[] args) {
        asManyDaysAsKept();
        orMoreDays();
        hadForDayLessDay();
        moreThan14Days();
        aPennyForEachDay();
        allOfTheHalt();
        booksBackFirst();
        backAtOneHaltLentAtTheNext();
        reservedByTheFirstOne();
        fewerThan3Reserved();
        theFirstHas3();
        reservedBookByBook();
        leavesTheQueue();
        reservedOfReadBooks();
        otherSmallestNumber();
        otherOneEach();
        otherFewerThan3();
        otherOfTheFavouriteShelf();
        otherWithoutAQueue();
        otherNotRead();
        otherReaderByReader();
        reservedAheadOfOther();
        theDayIs1Greater();
        emptyVan();
        Check.end();
    }

    private static LibraryVan atHome(int books) {
        LibraryVan van = BooksAndReadersTest.atHome();
        for (int i = 0; i < books; i++) {
            van.addBook(0);
        }
        return van;
    }

    /** Has the van serve nothing for so many days, and then its home each day. */
    private static void away(LibraryVan van, int days) {
        van.setRound(0, 300);
        van.pass(days);
        van.setRound(1, 300);
    }

    private static void with(LibraryVan van, int book, int reader) {
        Check.equal("T: who has the book " + book, van.book(book, 1), reader);
    }

    /** "each one that this reader has had for as many days as this one keeps". */
    private static void asManyDaysAsKept() {
        for (int keeps = 1; keeps <= 30; keeps++) {
            LibraryVan van = atHome(1);
            van.addReader(0, 0, keeps);
            van.pass(keeps);
            Check.equal("T: a day less than " + keeps, van.book(0, 1), 0);
            van.pass(1);
            Check.equal("T: for " + keeps + " days", van.book(0, 1), -1);
            Check.equal("T: the reader has none", van.reader(0, 3), 0);
        }
    }

    /** "or more". */
    private static void orMoreDays() {
        LibraryVan van = atHome(1);
        van.addReader(0, 0, 3);
        van.pass(1);
        away(van, 3);
        with(van, 0, 0);
        van.pass(1);
        with(van, 0, -1);
        Check.equal("T: 4 days, though 3 are kept", van.reader(0, 5), 0);
    }

    /** "(One that was lent on the day d has been had for the day now less d.)". */
    private static void hadForDayLessDay() {
        LibraryVan van = atHome(0);
        van.pass(60);
        van.addBook(0);
        van.addReader(0, 0, 2);
        van.setRound(11, 300);
        van.pass(1);
        Check.equal("13: lent on the day 60", van.book(0, 2), 60);
        Check.equal("T: had for 0 days the second time there", van.book(0, 1), 0);
        van.pass(1);
        Check.equal("T: had for 1 day", van.book(0, 1), 0);
        van.pass(1);
        Check.equal("T: had for 2 days", van.book(0, 1), -1);
    }

    /** "If it was had for more than 14 days, the reader owes a penny more for each day beyond". */
    private static void moreThan14Days() {
        for (int days = 1; days <= 30; days++) {
            LibraryVan van = atHome(1);
            van.addReader(0, 0, days);
            van.pass(days);
            Check.equal("T: nothing owed ahead of the day", van.reader(0, 5), 0);
            van.pass(1);
            Check.equal("T: owed for " + days + " days",
                    van.reader(0, 5), days > 14 ? days - 14 : 0);
        }
        int[] late = {13, 14, 15, 16};
        int[] due = {0, 0, 1, 2};
        for (int i = 0; i < late.length; i++) {
            LibraryVan van = atHome(1);
            van.addReader(0, 0, 1);
            van.pass(1);
            away(van, late[i] - 1);
            van.pass(1);
            Check.equal("T: owed for " + late[i] + " days, 1 is kept", van.reader(0, 5), due[i]);
        }
    }

    /** "a penny more for each day beyond 14": for each book, and more than what was owed. */
    private static void aPennyForEachDay() {
        LibraryVan van = atHome(3);
        van.addReader(0, 0, 15);
        for (int book = 0; book < 3; book++) {
            van.reserve(0, book);
        }
        van.pass(16);
        Check.equal("T: a penny for each of three", van.reader(0, 5), 3);
        van.reserve(0, 2);
        van.pass(16);
        Check.equal("T: a penny more", van.reader(0, 5), 4);
        van.reserve(0, 2);
        van.pass(1);
        away(van, 30);
        van.pass(1);
        Check.equal("T: 17 more for 31 days", van.reader(0, 5), 21);
        Check.equal("17: owed by all", van.count(7), 21);
    }

    /** "all who come to it are there", and nobody else. */
    private static void allOfTheHalt() {
        LibraryVan van = atHome(10);
        van.addHalt();
        van.addLane(0, 1, 30, 0);
        for (int i = 0; i < 10; i++) {
            van.addReader(i % 2, 5, 2);
            van.reserve(i, i);
        }
        Check.equal("T: the five at home", van.pass(1), 5);
        for (int i = 0; i < 10; i++) {
            Check.equal("T: the reader " + i, van.reader(i, 3), 1 - i % 2);
        }
        van.setRound(2, 300);
        Check.equal("T: the five at the other halt", van.pass(1), 5);
        Check.equal("T: all are lent", van.count(5), 0);
        van.pass(2);
        Check.equal("T: theirs alone came back", van.count(5), 5);
        for (int i = 0; i < 10; i++) {
            Check.equal("T: then the reader " + i, van.reader(i, 3), 1 - i % 2);
        }
    }

    /** "first all books come back, then all reserved ones are lent, then others". */
    private static void booksBackFirst() {
        LibraryVan van = atHome(2);
        van.addReader(0, 5, 9);
        van.addReader(0, 5, 9);
        van.addReader(0, 5, 1);
        van.reserve(2, 0);
        van.reserve(2, 1);
        van.pass(1);
        with(van, 0, 2);
        with(van, 1, 2);
        van.reserve(0, 1);
        van.addReader(0, 0, 9);
        Check.equal("T: those of the reader 2 are lent on the same day", van.pass(1), 2);
        with(van, 1, 0);
        with(van, 0, 3);
    }

    /** A book that comes back at one halt is on the van at the next one, not at the one ahead. */
    private static void backAtOneHaltLentAtTheNext() {
        int[] rounds = {12, 21};
        for (int round : rounds) {
            LibraryVan van = atHome(1);
            van.addHalt();
            van.addLane(0, 1, 1, 0);
            van.addReader(0, 0, 1);
            van.pass(1);
            van.addReader(1, 0, 9);
            van.setRound(round, 300);
            van.pass(1);
            Check.equal("T: on the same day, round " + round,
                    van.book(0, 1), round == 12 ? 1 : -1);
            van.pass(1);
            Check.equal("T: a day later", van.book(0, 1), 1);
        }
    }

    /** "in whose queue this reader is the first one". */
    private static void reservedByTheFirstOne() {
        LibraryVan van = atHome(2);
        van.addReader(0, 5, 9);
        van.addReader(0, 5, 9);
        van.reserve(1, 0);
        van.reserve(0, 0);
        van.reserve(0, 1);
        van.reserve(1, 1);
        Check.equal("T: both are lent", van.pass(1), 2);
        with(van, 0, 1);
        with(van, 1, 0);
        Check.equal("T: the other one waits", van.book(0, 4), 0);
        Check.equal("T: and so here", van.book(1, 4), 1);
        van.pass(8);
        with(van, 0, 1);
        van.pass(1);
        with(van, 0, 0);
        with(van, 1, 1);
    }

    /** "if this one has fewer than 3 books", of the reserved ones. */
    private static void fewerThan3Reserved() {
        LibraryVan van = atHome(6);
        van.addReader(0, 5, 9);
        van.reserve(0, 5);
        van.reserve(0, 4);
        Check.equal("T: none, and then two more", van.pass(1), 2);
        van.reserve(0, 3);
        van.reserve(0, 2);
        Check.equal("T: two, and then one more", van.pass(1), 1);
        with(van, 2, 0);
        with(van, 3, -1);
        Check.equal("T: three, and none more", van.pass(7), 0);
        Check.equal("T: it is reserved still", van.book(3, 4), 0);
        van.reserve(0, 1);
        Check.equal("T: two came back, two are lent", van.pass(1), 2);
        Check.equal("T: three again", van.reader(0, 3), 3);
        with(van, 1, 0);
        with(van, 3, 0);
    }

    /** The first of a queue has 3 books: the second one does not get it either. */
    private static void theFirstHas3() {
        LibraryVan van = atHome(4);
        van.addReader(0, 5, 30);
        van.addReader(0, 5, 30);
        for (int book = 0; book < 4; book++) {
            van.reserve(0, book);
        }
        van.reserve(1, 3);
        Check.equal("T: three are lent", van.pass(30), 3);
        with(van, 3, -1);
        Check.equal("T: it waits for who has 3", van.book(3, 4), 0);
        Check.equal("T: the second is behind", van.book(3, 3), 2);
        van.cancel(0, 3);
        Check.equal("T: then it is for the second", van.pass(1), 1);
        with(van, 3, 1);
    }

    /** "reader by reader, book by book". */
    private static void reservedBookByBook() {
        LibraryVan van = atHome(24);
        van.addReader(0, 5, 9);
        van.addReader(0, 5, 9);
        for (int book = 23; book >= 0; book--) {
            van.reserve(book % 2, book);
        }
        Check.equal("T: three for each", van.pass(1), 6);
        for (int book = 0; book < 24; book++) {
            with(van, book, book < 6 ? book % 2 : -1);
        }
    }

    /** "is lent to this one, who leaves the queue". */
    private static void leavesTheQueue() {
        LibraryVan van = atHome(1);
        for (int i = 0; i < 3; i++) {
            van.addReader(0, 5, 9);
            van.reserve(i, 0);
        }
        Check.equal("T: once a day", van.pass(1), 1);
        Check.equal("T: two are left", van.book(0, 3), 2);
        Check.equal("T: the next one is first", van.book(0, 4), 1);
        Check.equal("T: no reservation of who has it", van.reader(0, 6), 0);
        Check.equal("T: the last one is last", van.cancel(2, 0), 1);
    }

    /** A reserved book is lent though it was read, and is of no favourite shelf. */
    private static void reservedOfReadBooks() {
        LibraryVan van = atHome(1);
        van.addReader(0, 5, 1);
        for (int time = 1; time <= 5; time++) {
            van.reserve(0, 0);
            Check.equal("T: reserved and lent", van.pass(1), 1);
            Check.equal("13: times lent", van.book(0, 5), time);
            Check.equal("13: read by one", van.book(0, 6), 1);
            van.pass(1);
        }
    }

    /** "the book on the van with the smallest number". */
    private static void otherSmallestNumber() {
        LibraryVan van = atHome(24);
        van.addReader(0, 0, 1);
        for (int day = 0; day < 24; day++) {
            Check.equal("T: one each day", van.pass(1), 1);
            with(van, day, 0);
            Check.equal("T: those ahead are back", van.count(5), 23);
        }
        Check.equal("T: all are read", van.pass(1), 0);
        with(van, 23, -1);
    }

    /** "the book ... is lent to this one": one for each reader whenever the halt is served. */
    private static void otherOneEach() {
        LibraryVan van = atHome(24);
        for (int i = 0; i < 10; i++) {
            van.addReader(0, 0, 9);
        }
        Check.equal("T: ten for ten", van.pass(1), 10);
        van.setRound(11, 300);
        Check.equal("T: the 14 that are left", van.pass(1), 14);
        Check.equal("T: the van is empty", van.count(5), 0);
        Check.equal("T: none more of an empty van", van.pass(1), 0);
    }

    /** "if this one has fewer than 3 books", of the other ones. */
    private static void otherFewerThan3() {
        LibraryVan van = atHome(5);
        van.addReader(0, 0, 30);
        van.setRound(1111, 300);
        Check.equal("T: three of four times", van.pass(1), 3);
        Check.equal("T: none with three", van.pass(29), 0);
        Check.equal("T: when they are back", van.pass(1), 2);
        Check.equal("T: all are read", van.reader(0, 4), 5);
    }

    /** "that is of the favourite shelf". */
    private static void otherOfTheFavouriteShelf() {
        for (int shelf = 0; shelf <= 5; shelf++) {
            LibraryVan van = atHome(0);
            for (int book = 0; book < 6; book++) {
                van.addBook(book);
            }
            van.addReader(0, shelf, 30);
            Check.equal("T: the one of the shelf alone", van.pass(9), 1);
            with(van, shelf, 0);
        }
    }

    /** "has nobody in its queue". */
    private static void otherWithoutAQueue() {
        LibraryVan van = atHome(2);
        van.addHalt();
        van.addReader(1, 5, 9);
        van.addReader(0, 0, 9);
        van.reserve(0, 0);
        van.reserve(0, 1);
        Check.equal("T: both have somebody in the queue", van.pass(5), 0);
        van.cancel(0, 1);
        Check.equal("T: one has nobody any more", van.pass(1), 1);
        with(van, 1, 1);
        van.cancel(0, 0);
        Check.equal("T: nor has the other", van.pass(1), 1);
    }

    /** "and was not read by this one": "Once a reader has had a book, this one has read it." */
    private static void otherNotRead() {
        LibraryVan van = atHome(2);
        van.addReader(0, 0, 1);
        van.reserve(0, 0);
        Check.equal("T: a reserved one and the other one", van.pass(1), 2);
        Check.equal("T: both are read", van.pass(60), 0);
        van.addReader(0, 0, 1);
        Check.equal("T: not by the new reader", van.pass(60), 2);
        Check.equal("T: each has read two", van.reader(0, 4) + van.reader(1, 4), 4);
        van.addBook(0);
        Check.equal("T: a new book is read by nobody", van.pass(60), 2);
    }

    /** "Other books: reader by reader". */
    private static void otherReaderByReader() {
        LibraryVan van = atHome(3);
        van.addReader(0, 0, 9);
        van.addReader(0, 0, 9);
        van.setRound(11, 300);
        Check.equal("T: all three", van.pass(1), 3);
        with(van, 0, 0);
        with(van, 1, 1);
        with(van, 2, 0);
    }

    /** A reader who reserves gets that one ahead, and the third place is taken by it. */
    private static void reservedAheadOfOther() {
        LibraryVan van = atHome(5);
        van.addReader(0, 0, 30);
        van.reserve(0, 3);
        van.reserve(0, 4);
        Check.equal("T: two reserved ones and another one", van.pass(1), 3);
        with(van, 0, 0);
        with(van, 3, 0);
        with(van, 4, 0);
        LibraryVan full = atHome(5);
        full.addReader(0, 0, 30);
        full.reserve(0, 2);
        full.reserve(0, 3);
        full.reserve(0, 4);
        Check.equal("T: three reserved ones alone", full.pass(1), 3);
        with(full, 0, -1);
    }

    /** "The day is 1 greater." */
    private static void theDayIs1Greater() {
        LibraryVan van = new LibraryVan();
        Check.equal("T: time is told from 0", van.count(0), 0);
        van.pass(1);
        Check.equal("T: the day 1", van.count(0), 1);
        van.pass(60);
        Check.equal("T: the day 61", van.count(0), 61);
        van.foresee(60, 0);
        Check.equal("T: the day 61 still", van.count(0), 61);
    }

    /** A van without books, or without readers, serves its halts all the same. */
    private static void emptyVan() {
        LibraryVan van = atHome(0);
        van.addReader(0, 0, 1);
        Check.equal("T: no loans without books", van.pass(3), 0);
        Check.equal("T: but served", van.halt(0, 3), 3);
        LibraryVan books = atHome(3);
        Check.equal("T: no loans without readers", books.pass(3), 0);
        Check.equal("T: but served too", books.halt(0, 3), 3);
        Check.equal("17: all on the van", books.count(5), 3);
    }
}
