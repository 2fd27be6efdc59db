/** Promises 9 to 15: books, readers, queues, and what is owed. */
public final class BooksAndReadersTest {
    private BooksAndReadersTest() {
    }

    public static void main(String[] args) {
        promise9AddBook();
        promise10AddReader();
        promise11Reserve();
        promise11WrongReserve();
        promise12Cancel();
        promise13Book();
        promise14Reader();
        promise14Reservations();
        promise15Pay();
        Check.end();
    }

    /** A van that serves its home alone, on every day. */
    static LibraryVan atHome() {
        LibraryVan van = new LibraryVan();
        van.addHalt();
        van.setRound(1, 300);
        return van;
    }

    private static void promise9AddBook() {
        LibraryVan van = new LibraryVan();
        Check.refusedArgument(van, "9: shelf -1", () -> van.addBook(-1));
        Check.refusedArgument(van, "9: shelf 6", () -> van.addBook(6));
        for (int i = 0; i < 24; i++) {
            Check.equal("9: addBook", van.addBook(i % 6), i);
            Check.equal("9: its shelf", van.book(i, 0), i % 6);
            Check.equal("9: on the van", van.count(5), i + 1);
        }
        Check.equal("9: books", van.count(3), 24);
        Check.refusedState(van, "9: a book too many", () -> van.addBook(0));
        Check.refusedArgument(van, "9: argument ahead of state", () -> van.addBook(6));
    }

    private static void promise10AddReader() {
        LibraryVan van = new LibraryVan();
        Check.refusedIndex(van, "10: no halt yet", () -> van.addReader(0, 0, 1));
        van.addHalt();
        van.addHalt();
        Check.refusedIndex(van, "10: halt -1", () -> van.addReader(-1, 0, 1));
        Check.refusedIndex(van, "10: halt 2", () -> van.addReader(2, 0, 1));
        Check.refusedIndex(van, "10: index ahead of argument", () -> van.addReader(2, 6, 0));
        Check.refusedArgument(van, "10: shelf -1", () -> van.addReader(0, -1, 1));
        Check.refusedArgument(van, "10: shelf 6", () -> van.addReader(0, 6, 1));
        Check.refusedArgument(van, "10: keeps 0", () -> van.addReader(0, 0, 0));
        Check.refusedArgument(van, "10: keeps 31", () -> van.addReader(0, 0, 31));
        for (int i = 0; i < 10; i++) {
            Check.equal("10: addReader", van.addReader(i % 2, i % 6, 3 * i + 1), i);
            Check.equal("10: the halt", van.reader(i, 0), i % 2);
            Check.equal("10: the shelf", van.reader(i, 1), i % 6);
            Check.equal("10: keeps", van.reader(i, 2), 3 * i + 1);
        }
        Check.equal("10: readers", van.count(4), 10);
        Check.refusedState(van, "10: a reader too many", () -> van.addReader(0, 5, 30));
        Check.refusedArgument(van, "10: argument ahead of state", () -> van.addReader(0, 0, 31));
        Check.refusedIndex(van, "10: index ahead of state", () -> van.addReader(2, 0, 1));
        LibraryVan edge = new LibraryVan();
        edge.addHalt();
        Check.equal("10: keeps 30, shelf 5", edge.addReader(0, 5, 30), 0);
    }

    private static void promise11Reserve() {
        LibraryVan van = atHome();
        van.addBook(5);
        van.addBook(5);
        for (int i = 0; i < 10; i++) {
            van.addReader(0, 0, 1);
        }
        for (int i = 0; i < 10; i++) {
            Check.equal("11: places in the queue", van.reserve(9 - i, 1), i + 1);
        }
        Check.equal("11: the first stays the first", van.book(1, 4), 9);
        Check.equal("11: the other queue is empty", van.book(0, 3), 0);
        for (int i = 0; i < 10; i++) {
            van.pass(1);
            Check.equal("11: lent in the order of the queue", van.book(1, 1), 9 - i);
            Check.equal("11: who gets it leaves the queue", van.book(1, 3), 9 - i);
        }
    }

    private static void promise11WrongReserve() {
        LibraryVan van = atHome();
        van.addBook(0);
        van.addBook(1);
        van.addReader(0, 0, 30);
        van.addReader(0, 5, 30);
        van.pass(1);
        Check.equal("11: the reader has the book", van.book(0, 1), 0);
        Check.refusedState(van, "11: who has it", () -> van.reserve(0, 0));
        Check.equal("11: another reader can", van.reserve(1, 0), 1);
        Check.refusedState(van, "11: who is in the queue", () -> van.reserve(1, 0));
        Check.equal("11: one on the van can be reserved", van.reserve(1, 1), 1);
        Check.refusedIndex(van, "11: reader -1", () -> van.reserve(-1, 0));
        Check.refusedIndex(van, "11: reader 2", () -> van.reserve(2, 0));
        Check.refusedIndex(van, "11: book -1", () -> van.reserve(0, -1));
        Check.refusedIndex(van, "11: book 2", () -> van.reserve(0, 2));
        Check.refusedIndex(van, "11: index ahead of state", () -> van.reserve(-1, 0));
        van.pass(30);
        Check.equal("11: the second one has it", van.book(0, 1), 1);
        Check.equal("11: who has read it can reserve it", van.reserve(0, 0), 1);
    }

    private static void promise12Cancel() {
        LibraryVan van = atHome();
        van.addBook(0);
        van.addBook(0);
        for (int i = 0; i < 4; i++) {
            van.addReader(0, 5, 2);
            van.reserve(i, 0);
        }
        van.reserve(3, 1);
        Check.equal("12: not in that queue", van.cancel(0, 1), -1);
        Check.equal("12: in the middle", van.cancel(1, 0), 1);
        Check.equal("12: one less", van.book(0, 3), 3);
        Check.equal("12: not any more", van.cancel(1, 0), -1);
        Check.equal("12: still as many", van.book(0, 3), 3);
        Check.equal("12: the last moved up", van.cancel(3, 0), 2);
        Check.equal("12: the other queue is left alone", van.book(1, 4), 3);
        Check.equal("12: the first", van.cancel(0, 0), 0);
        Check.equal("12: the next is first", van.book(0, 4), 2);
        Check.equal("12: comes to the end again", van.reserve(0, 0), 2);
        Check.refusedIndex(van, "12: reader -1", () -> van.cancel(-1, 0));
        Check.refusedIndex(van, "12: reader 4", () -> van.cancel(4, 0));
        Check.refusedIndex(van, "12: book -1", () -> van.cancel(0, -1));
        Check.refusedIndex(van, "12: book 2", () -> van.cancel(0, 2));
        Check.equal("12: the last one of all", van.cancel(2, 0) + van.cancel(0, 0), 0);
        Check.equal("12: nobody", van.book(0, 4), -1);
    }

    private static void promise13Book() {
        LibraryVan van = atHome();
        van.addBook(4);
        van.addBook(2);
        van.addReader(0, 4, 2);
        van.addReader(0, 4, 3);
        van.addReader(0, 1, 3);
        books(van, "at first", new int[][] {{4, -1, -1, 0, -1, 0, 0}, {2, -1, -1, 0, -1, 0, 0}});
        van.pass(4);
        van.reserve(2, 0);
        van.reserve(0, 1);
        van.reserve(2, 1);
        books(van, "in between", new int[][] {{4, 1, 2, 1, 2, 2, 2}, {2, -1, -1, 2, 0, 0, 0}});
        van.pass(2);
        books(van, "then", new int[][] {{4, 2, 5, 0, -1, 3, 3}, {2, 0, 4, 1, 2, 1, 1}});
        van.reserve(1, 0);
        van.pass(3);
        books(van, "at last", new int[][] {{4, 1, 8, 0, -1, 4, 3}, {2, 2, 6, 0, -1, 2, 2}});
        Check.refusedIndex(van, "13: book -1", () -> van.book(-1, 0));
        Check.refusedIndex(van, "13: book 2", () -> van.book(2, 0));
        Check.refusedIndex(van, "13: what -1", () -> van.book(0, -1));
        Check.refusedIndex(van, "13: what 7", () -> van.book(0, 7));
    }

    private static void books(LibraryVan van, String when, int[][] due) {
        for (int book = 0; book < due.length; book++) {
            for (int what = 0; what < 7; what++) {
                Check.equal("13: book(" + book + ", " + what + ") " + when,
                        van.book(book, what), due[book][what]);
            }
        }
    }

    private static void promise14Reader() {
        LibraryVan van = atHome();
        van.addHalt();
        for (int i = 0; i < 5; i++) {
            van.addBook(3);
        }
        van.addReader(0, 3, 16);
        van.addReader(1, 3, 30);
        van.reserve(1, 4);
        van.reserve(1, 3);
        van.reserve(0, 3);
        readers(van, "at first", new int[][] {{0, 3, 16, 0, 0, 0, 1, 0}, {1, 3, 30, 0, 0, 0, 2, 0}});
        van.pass(10);
        readers(van, "with three", new int[][] {{0, 3, 16, 3, 3, 0, 1, 3}, {1, 3, 30, 0, 0, 0, 2, 0}});
        van.pass(8);
        readers(van, "later", new int[][] {{0, 3, 16, 1, 3, 4, 1, 3}, {1, 3, 30, 0, 0, 0, 2, 0}});
        van.reserve(0, 0);
        van.pass(1);
        readers(van, "again", new int[][] {{0, 3, 16, 1, 3, 6, 1, 4}, {1, 3, 30, 0, 0, 0, 2, 0}});
        Check.refusedIndex(van, "14: reader -1", () -> van.reader(-1, 0));
        Check.refusedIndex(van, "14: reader 2", () -> van.reader(2, 0));
        Check.refusedIndex(van, "14: what -1", () -> van.reader(0, -1));
        Check.refusedIndex(van, "14: what 8", () -> van.reader(0, 8));
    }

    private static void promise14Reservations() {
        LibraryVan van = atHome();
        van.addReader(0, 5, 1);
        van.addReader(0, 5, 1);
        for (int i = 0; i < 24; i++) {
            van.addBook(0);
            van.reserve(1, i);
            van.reserve(0, i);
            Check.equal("14: reserved, as the second", van.reader(0, 6), i + 1);
        }
        van.cancel(0, 0);
        Check.equal("14: one less", van.reader(0, 6), 23);
        Check.equal("14: of the other none less", van.reader(1, 6), 24);
        van.pass(60);
        Check.equal("14: all were lent", van.reader(0, 6), 0);
        Check.equal("14: loans in all", van.reader(0, 7), 23);
        Check.equal("14: the other has read all", van.reader(1, 4), 24);
    }

    private static void readers(LibraryVan van, String when, int[][] due) {
        for (int reader = 0; reader < due.length; reader++) {
            for (int what = 0; what < 8; what++) {
                Check.equal("14: reader(" + reader + ", " + what + ") " + when,
                        van.reader(reader, what), due[reader][what]);
            }
        }
    }

    private static void promise15Pay() {
        LibraryVan van = atHome();
        van.addBook(0);
        van.addReader(0, 0, 20);
        van.addReader(0, 0, 20);
        Check.refusedArgument(van, "15: nothing owed", () -> van.pay(0, 1));
        van.pass(21);
        Check.equal("15: owed for 20 days", van.reader(0, 5), 6);
        Check.refusedArgument(van, "15: 0 pence", () -> van.pay(0, 0));
        Check.refusedArgument(van, "15: less than 0", () -> van.pay(0, -1));
        Check.refusedArgument(van, "15: more than owed", () -> van.pay(0, 7));
        Check.refusedArgument(van, "15: another owes nothing", () -> van.pay(1, 1));
        Check.equal("15: a part", van.pay(0, 2), 4);
        Check.equal("15: told", van.reader(0, 5), 4);
        Check.equal("15: a penny", van.pay(0, 1), 3);
        Check.equal("15: all of it", van.pay(0, 3), 0);
        Check.equal("15: nothing owed by all", van.count(7), 0);
        Check.refusedArgument(van, "15: not again", () -> van.pay(0, 1));
        Check.refusedIndex(van, "15: reader -1", () -> van.pay(-1, 1));
        Check.refusedIndex(van, "15: reader 2", () -> van.pay(2, 1));
        Check.refusedIndex(van, "15: index ahead of argument", () -> van.pay(2, 0));
    }
}
