/**
 * The edges that the document names for books, readers, their queues and what they pay: a test for
 * each sentence, which stands ahead of it. "T" in front of a line tells a sentence of the Terms.
 */
public final class EdgesOfBooksTest {
    private static final int LEAST = Integer.MIN_VALUE;
    private static final int MOST = Integer.MAX_VALUE;

    private EdgesOfBooksTest() {
    }

    public static void main(String[] args) {
        atMost24Books();
        shelf0To5();
        onTheVanAtFirst();
        atMost10Readers();
        readersHalt();
        favouriteShelf0To5();
        keeps1To30();
        owesNothingAtFirst();
        reserveAFullQueue();
        reserveTwice();
        reserveWhoHasIt();
        reserveNoSuch();
        cancelPlaces();
        cancelOfAnEmptyQueue();
        cancelNoSuch();
        answersOfBooks();
        mostOfABook();
        answersOfReaders();
        mostOfAReader();
        payEdges();
        payInParts();
        payWithoutDebt();
        Check.end();
    }

    private static LibraryVan atHome() {
        return BooksAndReadersTest.atHome();
    }

    /** At home with so many books of the shelf 0, and as many readers with another favourite. */
    private static LibraryVan withQueues(int books, int readers, int keeps) {
        LibraryVan van = atHome();
        for (int i = 0; i < books; i++) {
            van.addBook(0);
        }
        for (int i = 0; i < readers; i++) {
            van.addReader(0, 5, keeps);
        }
        return van;
    }

    /** "There are at most 24, numbered likewise". */
    private static void atMost24Books() {
        LibraryVan van = new LibraryVan();
        for (int i = 0; i < 24; i++) {
            int next = i;
            Check.refusedIndex(van, "9: not yet added", () -> van.book(next, 0));
            Check.equal("9: the number of a book", van.addBook(0), i);
        }
        Check.equal("9: 24 books", van.count(3), 24);
        Check.refusedState(van, "9: a book too many", () -> van.addBook(0));
        Check.refusedState(van, "9: of another shelf too", () -> van.addBook(5));
        Check.refusedArgument(van, "9: shelf -1 ahead of 24", () -> van.addBook(-1));
        Check.refusedArgument(van, "9: shelf 6 ahead of 24", () -> van.addBook(6));
        Check.refusedIndex(van, "9: no book 24", () -> van.book(24, 0));
        Check.equal("9: the book 23", van.book(23, 1), -1);
    }

    /** "each of a shelf, 0 to 5". */
    private static void shelf0To5() {
        LibraryVan van = new LibraryVan();
        for (int wrong : new int[] {LEAST, -1, 6, MOST}) {
            Check.refusedArgument(van, "9: shelf " + wrong, () -> van.addBook(wrong));
        }
        Check.equal("9: none was added", van.count(3), 0);
        Check.equal("9: shelf 0", van.addBook(0), 0);
        Check.equal("9: shelf 5", van.addBook(5), 1);
        Check.equal("9: told as 0", van.book(0, 0), 0);
        Check.equal("9: told as 5", van.book(1, 0), 5);
    }

    /** "a book is on the van (at first), or with a reader". */
    private static void onTheVanAtFirst() {
        LibraryVan van = atHome();
        van.addReader(0, 0, 1);
        van.pass(5);
        van.addBook(0);
        Check.equal("9: on the van", van.book(0, 1), -1);
        Check.equal("9: since no day", van.book(0, 2), -1);
        Check.equal("9: counted there", van.count(5), 1);
        van.pass(1);
        Check.equal("T: with the reader", van.book(0, 1), 0);
        Check.equal("T: since the day 5", van.book(0, 2), 5);
        Check.equal("T: none on the van", van.count(5), 0);
        van.pass(1);
        Check.equal("T: on the van again", van.count(5), 1);
        Check.equal("13: since no day again", van.book(0, 2), -1);
    }

    /** "There are at most 10, numbered likewise". */
    private static void atMost10Readers() {
        LibraryVan van = withQueues(1, 0, 1);
        for (int i = 0; i < 10; i++) {
            int next = i;
            Check.refusedIndex(van, "10: not yet added", () -> van.reader(next, 0));
            Check.refusedIndex(van, "10: cannot reserve", () -> van.reserve(next, 0));
            Check.equal("10: the number of a reader", van.addReader(0, 5, 1), i);
        }
        Check.refusedState(van, "10: a reader too many", () -> van.addReader(0, 0, 1));
        Check.refusedArgument(van, "10: shelf ahead of 10", () -> van.addReader(0, 6, 1));
        Check.refusedArgument(van, "10: keeps ahead of 10", () -> van.addReader(0, 0, 0));
        Check.refusedIndex(van, "10: halt ahead of 10", () -> van.addReader(1, 0, 1));
        Check.refusedIndex(van, "10: no reader 10", () -> van.reader(10, 0));
        Check.equal("10: the reader 9 can reserve", van.reserve(9, 0), 1);
        Check.equal("10: ten readers there", van.halt(0, 0), 10);
    }

    /** "each comes to one halt"; "if there is no such halt". */
    private static void readersHalt() {
        LibraryVan none = new LibraryVan();
        Check.refusedIndex(none, "10: without halts", () -> none.addReader(0, 0, 1));
        LibraryVan van = HaltsAndRoundTest.withHalts(8);
        for (int wrong : new int[] {LEAST, -1, 8, MOST}) {
            Check.refusedIndex(van, "10: halt " + wrong, () -> van.addReader(wrong, 0, 1));
            Check.refusedIndex(van, "10: ahead of shelf", () -> van.addReader(wrong, 6, 1));
            Check.refusedIndex(van, "10: ahead of keeps", () -> van.addReader(wrong, 0, 31));
        }
        Check.equal("10: at the halt 0", van.addReader(0, 0, 1), 0);
        Check.equal("10: at the halt 7", van.addReader(7, 0, 1), 1);
        Check.equal("10: told as 7", van.reader(1, 0), 7);
        Check.equal("6: one at 7", van.halt(7, 0), 1);
        Check.equal("6: none at 6", van.halt(6, 0), 0);
    }

    /** "has a favourite shelf"; "if shelf is not 0 to 5". */
    private static void favouriteShelf0To5() {
        LibraryVan van = atHome();
        for (int wrong : new int[] {LEAST, -1, 6, MOST}) {
            Check.refusedArgument(van, "10: shelf " + wrong, () -> van.addReader(0, wrong, 1));
        }
        for (int shelf = 0; shelf <= 5; shelf++) {
            van.addReader(0, 5 - shelf, 9);
            van.addBook(shelf);
        }
        Check.equal("10: each has one of the favourite shelf", van.pass(1), 6);
        for (int shelf = 0; shelf <= 5; shelf++) {
            Check.equal("10: the book of the shelf " + shelf, van.book(shelf, 1), 5 - shelf);
        }
    }

    /** "keeps a book for 1 to 30 days". */
    private static void keeps1To30() {
        LibraryVan van = atHome();
        for (int wrong : new int[] {LEAST, -1, 0, 31, MOST}) {
            Check.refusedArgument(van, "10: keeps " + wrong, () -> van.addReader(0, 0, wrong));
        }
        van.addBook(0);
        van.addBook(1);
        van.addReader(0, 0, 1);
        van.addReader(0, 1, 30);
        van.pass(1);
        Check.equal("10: kept to the end of the day", van.book(0, 1), 0);
        van.pass(1);
        Check.equal("10: back behind 1 day", van.book(0, 1), -1);
        van.pass(28);
        Check.equal("10: kept on the day 29", van.book(1, 1), 1);
        van.pass(1);
        Check.equal("10: back on the day 30", van.book(1, 1), -1);
    }

    /** "owes pence (0, at first)". */
    private static void owesNothingAtFirst() {
        LibraryVan van = atHome();
        van.addBook(0);
        van.addReader(0, 0, 30);
        van.pass(31);
        Check.equal("T: one owes", van.count(7), 16);
        van.addReader(0, 0, 30);
        Check.equal("T: a new one owes nothing", van.reader(1, 5), 0);
        Check.equal("T: so all owe as much", van.count(7), 16);
    }

    /** "Reserves a book for a reader, who comes to the end of its queue." */
    private static void reserveAFullQueue() {
        LibraryVan van = withQueues(2, 10, 1);
        Check.equal("11: the queue is empty", van.book(1, 3), 0);
        Check.equal("11: nobody is first", van.book(1, 4), -1);
        for (int i = 0; i < 10; i++) {
            Check.equal("11: places", van.reserve((i + 3) % 10, 1), i + 1);
            Check.equal("11: the first stays", van.book(1, 4), 3);
        }
        for (int i = 0; i < 10; i++) {
            int reader = i;
            Check.refusedState(van, "11: all are in it", () -> van.reserve(reader, 1));
        }
        Check.equal("11: ten in it", van.book(1, 3), 10);
        for (int i = 0; i < 10; i++) {
            Check.equal("11: lent each day", van.pass(1), 1);
            Check.equal("11: in this order", van.book(1, 1), (i + 3) % 10);
        }
        Check.equal("11: empty again", van.book(1, 4), -1);
        Check.equal("11: nobody more", van.pass(9), 0);
    }

    /** "if this reader is in its queue". */
    private static void reserveTwice() {
        LibraryVan van = withQueues(2, 3, 9);
        van.reserve(1, 0);
        Check.refusedState(van, "11: as the first and only one", () -> van.reserve(1, 0));
        van.reserve(0, 0);
        Check.refusedState(van, "11: as the first one", () -> van.reserve(1, 0));
        Check.refusedState(van, "11: as the last one", () -> van.reserve(0, 0));
        Check.equal("11: another book", van.reserve(1, 1), 1);
        Check.equal("11: another reader", van.reserve(2, 0), 3);
        van.cancel(1, 0);
        Check.equal("11: again behind a cancel", van.reserve(1, 0), 3);
    }

    /** "or has the book". */
    private static void reserveWhoHasIt() {
        LibraryVan van = withQueues(1, 2, 2);
        van.reserve(0, 0);
        van.pass(1);
        Check.refusedState(van, "11: who has it", () -> van.reserve(0, 0));
        Check.equal("11: who has it not", van.reserve(1, 0), 1);
        Check.refusedState(van, "11: who has it, with a queue", () -> van.reserve(0, 0));
        van.pass(1);
        Check.refusedState(van, "11: who has it a day later", () -> van.reserve(0, 0));
        van.pass(1);
        Check.equal("11: the next one has it", van.book(0, 1), 1);
        Check.equal("11: who had it", van.reserve(0, 0), 1);
        Check.refusedState(van, "11: who has it now", () -> van.reserve(1, 0));
    }

    /** "if there is no such reader or book". */
    private static void reserveNoSuch() {
        LibraryVan van = withQueues(24, 10, 2);
        van.reserve(9, 23);
        for (int wrong : new int[] {LEAST, -1, 10, MOST}) {
            Check.refusedIndex(van, "11: reader " + wrong, () -> van.reserve(wrong, 23));
        }
        for (int wrong : new int[] {LEAST, -1, 24, MOST}) {
            Check.refusedIndex(van, "11: book " + wrong, () -> van.reserve(9, wrong));
        }
        Check.equal("11: the last book, the first reader", van.reserve(0, 23), 2);
        LibraryVan none = new LibraryVan();
        Check.refusedIndex(none, "11: neither", () -> none.reserve(0, 0));
        none.addBook(0);
        Check.refusedIndex(none, "11: a book, no reader", () -> none.reserve(0, 0));
    }

    /** "Returns the place where this one was, from 0". */
    private static void cancelPlaces() {
        LibraryVan van = withQueues(1, 10, 2);
        for (int i = 0; i < 10; i++) {
            van.reserve(i, 0);
        }
        Check.equal("12: the last of ten", van.cancel(9, 0), 9);
        Check.equal("12: nine are left", van.book(0, 3), 9);
        Check.equal("12: the first of nine", van.cancel(0, 0), 0);
        Check.equal("12: the next is first", van.book(0, 4), 1);
        Check.equal("12: in the middle", van.cancel(4, 0), 3);
        int[] rest = {1, 2, 3, 5, 6, 7, 8};
        for (int i = 0; i < rest.length; i++) {
            Check.equal("12: in the order that was", van.book(0, 4), rest[i]);
            Check.equal("12: always the first", van.cancel(rest[i], 0), 0);
            Check.equal("12: one less", van.book(0, 3), rest.length - 1 - i);
        }
    }

    /** "-1 if this one was not in it". */
    private static void cancelOfAnEmptyQueue() {
        LibraryVan van = withQueues(2, 3, 2);
        Check.equal("12: an empty queue", van.cancel(0, 0), -1);
        van.reserve(1, 0);
        long digest = van.digest();
        Check.equal("12: not in the queue", van.cancel(0, 0), -1);
        Check.equal("12: in that of another book", van.cancel(1, 1), -1);
        Check.equal("12: nothing is changed", van.digest(), digest);
        van.pass(1);
        Check.equal("12: who has it is not in it any more", van.cancel(1, 0), -1);
        van.reserve(2, 0);
        Check.equal("12: alone", van.cancel(2, 0), 0);
        Check.equal("12: twice", van.cancel(2, 0), -1);
        Check.equal("12: nobody is first", van.book(0, 4), -1);
    }

    /** "if there is no such reader or book". */
    private static void cancelNoSuch() {
        LibraryVan van = withQueues(24, 10, 2);
        van.reserve(0, 0);
        for (int wrong : new int[] {LEAST, -1, 10, MOST}) {
            Check.refusedIndex(van, "12: reader " + wrong, () -> van.cancel(wrong, 0));
        }
        for (int wrong : new int[] {LEAST, -1, 24, MOST}) {
            Check.refusedIndex(van, "12: book " + wrong, () -> van.cancel(0, wrong));
        }
        LibraryVan none = new LibraryVan();
        Check.refusedIndex(none, "12: neither", () -> none.cancel(0, 0));
    }

    /** Promise 13: "if there is no such book, or what is not 0 to 6". */
    private static void answersOfBooks() {
        LibraryVan van = new LibraryVan();
        Check.refusedIndex(van, "13: no book yet", () -> van.book(0, 0));
        van.addBook(0);
        van.addBook(5);
        int[] due = {5, -1, -1, 0, -1, 0, 0};
        for (int what = 0; what <= 6; what++) {
            Check.equal("13: a new book, " + what, van.book(1, what), due[what]);
        }
        for (int wrong : new int[] {LEAST, -1, 7, MOST}) {
            Check.refusedIndex(van, "13: what " + wrong, () -> van.book(1, wrong));
        }
        for (int wrong : new int[] {LEAST, -1, 2, 23, 24, MOST}) {
            Check.refusedIndex(van, "13: book " + wrong, () -> van.book(wrong, 6));
        }
    }

    /** Promise 13: the most of what it tells, and "also who has it". */
    private static void mostOfABook() {
        LibraryVan van = withQueues(1, 10, 1);
        for (int time = 0; time < 2; time++) {
            for (int i = 0; i < 10; i++) {
                van.reserve(i, 0);
            }
            van.pass(1);
            Check.equal("13: who has it has read it", van.book(0, 6), time == 0 ? 1 : 10);
            van.pass(9);
            int[] due = {0, 9, 11 * time + 9, 0, -1, 10 * time + 10, 10};
            for (int what = 0; what <= 6; what++) {
                Check.equal("13: ten have read it, " + what, van.book(0, what), due[what]);
            }
            van.pass(1);
            Check.equal("13: on the van", van.book(0, 1), -1);
        }
        Check.equal("13: ten have read it still", van.book(0, 6), 10);
        Check.equal("13: since the day 0", sinceTheDay0(), 0);
    }

    private static int sinceTheDay0() {
        LibraryVan van = withQueues(1, 1, 1);
        van.reserve(0, 0);
        van.pass(1);
        return van.book(0, 2);
    }

    /** Promise 14: "if there is no such reader, or what is not 0 to 7". */
    private static void answersOfReaders() {
        LibraryVan van = atHome();
        Check.refusedIndex(van, "14: no reader yet", () -> van.reader(0, 0));
        van.addReader(0, 5, 30);
        van.addReader(0, 0, 1);
        int[][] due = {{0, 5, 30, 0, 0, 0, 0, 0}, {0, 0, 1, 0, 0, 0, 0, 0}};
        for (int reader = 0; reader < 2; reader++) {
            for (int what = 0; what <= 7; what++) {
                Check.equal("14: a new reader, " + what,
                        van.reader(reader, what), due[reader][what]);
            }
        }
        for (int wrong : new int[] {LEAST, -1, 8, MOST}) {
            Check.refusedIndex(van, "14: what " + wrong, () -> van.reader(1, wrong));
        }
        for (int wrong : new int[] {LEAST, -1, 2, 9, 10, MOST}) {
            Check.refusedIndex(van, "14: reader " + wrong, () -> van.reader(wrong, 7));
        }
    }

    /** Promise 14: the most of what it tells, and "also those this one has". */
    private static void mostOfAReader() {
        LibraryVan van = withQueues(24, 1, 1);
        for (int i = 0; i < 24; i++) {
            van.reserve(0, i);
        }
        Check.equal("14: 24 reserved", van.reader(0, 6), 24);
        van.pass(1);
        Check.equal("14: has 3", van.reader(0, 3), 3);
        Check.equal("14: has read those too", van.reader(0, 4), 3);
        Check.equal("14: 21 reserved", van.reader(0, 6), 21);
        van.pass(7);
        int[] due = {0, 5, 1, 3, 24, 0, 0, 24};
        for (int what = 0; what <= 7; what++) {
            Check.equal("14: has read all, " + what, van.reader(0, what), due[what]);
        }
        van.reserve(0, 0);
        van.pass(1);
        Check.equal("14: the book 0 a second time", van.reader(0, 7), 25);
        Check.equal("14: has read 24 still", van.reader(0, 4), 24);
        Check.equal("14: has that one", van.reader(0, 3), 1);
    }

    /** At home with one reader who owes 6 pence for a book of 20 days, and one who owes none. */
    private static LibraryVan owing6() {
        LibraryVan van = atHome();
        van.addBook(0);
        van.addReader(0, 0, 20);
        van.addReader(0, 5, 20);
        van.pass(21);
        return van;
    }

    /** "if pence is less than 1, or more than is owed"; "if there is no such reader". */
    private static void payEdges() {
        LibraryVan van = owing6();
        Check.equal("15: owed", van.reader(0, 5), 6);
        for (int wrong : new int[] {LEAST, -1, 0, 7, 8, MOST}) {
            Check.refusedArgument(van, "15: pence " + wrong, () -> van.pay(0, wrong));
        }
        for (int wrong : new int[] {LEAST, -1, 2, 9, 10, MOST}) {
            Check.refusedIndex(van, "15: reader " + wrong, () -> van.pay(wrong, 1));
            Check.refusedIndex(van, "15: ahead of pence 0", () -> van.pay(wrong, 0));
            Check.refusedIndex(van, "15: ahead of pence 7", () -> van.pay(wrong, 7));
        }
        Check.equal("15: all that is owed", van.pay(0, 6), 0);
        Check.refusedArgument(van, "15: no penny more", () -> van.pay(0, 1));
    }

    private static void payInParts() {
        LibraryVan van = owing6();
        Check.equal("15: a penny", van.pay(0, 1), 5);
        Check.refusedArgument(van, "15: not 6 any more", () -> van.pay(0, 6));
        Check.equal("15: all but a penny", van.pay(0, 4), 1);
        Check.refusedArgument(van, "15: 2 of a penny", () -> van.pay(0, 2));
        Check.equal("17: owed by all", van.count(7), 1);
        Check.equal("15: the last penny", van.pay(0, 1), 0);
        Check.equal("17: nothing owed by all", van.count(7), 0);
        van.reserve(0, 0);
        van.pass(21);
        Check.equal("15: owed anew", van.reader(0, 5), 6);
    }

    private static void payWithoutDebt() {
        LibraryVan van = owing6();
        Check.refusedArgument(van, "15: who owes nothing", () -> van.pay(1, 1));
        Check.refusedArgument(van, "15: nor 0", () -> van.pay(1, 0));
        Check.equal("15: the other owes as much as before", van.reader(0, 5), 6);
    }
}
