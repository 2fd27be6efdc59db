import java.util.List;

/** Promises 18 to 22: foresee, gets, advise, daily, digest. */
public final class LookingAheadTest {
    private LookingAheadTest() {
    }

    public static void main(String[] args) {
        promise18Foresee();
        promise18WhatIsNow();
        promise18WrongForesee();
        promise19Gets();
        promise19Edge();
        promise20Advise();
        promise20OfSeveral();
        promise20WrongAdvise();
        promise20Days();
        promise21Daily();
        promise22Digest();
        promise22EachNumber();
        Check.end();
    }

    /** Two halts, of which the second is cut off by the mud of every week. */
    private static LibraryVan busy() {
        LibraryVan van = HaltsAndRoundTest.withHalts(3);
        van.addLane(0, 1, 10, 9);
        van.addLane(1, 2, 12, 2);
        for (int i = 0; i < 8; i++) {
            van.addBook(i % 3);
        }
        van.addReader(1, 0, 16);
        van.addReader(1, 1, 3);
        van.addReader(2, 2, 20);
        van.reserve(2, 0);
        van.reserve(0, 0);
        van.reserve(1, 7);
        van.setRain(2, 8);
        van.setRain(3, 3);
        van.setRound(232, 90);
        return van;
    }

    private static void promise18Foresee() {
        for (int days = 1; days <= 60; days++) {
            LibraryVan van = busy();
            van.pass(9);
            List<Long> before = Check.picture(van);
            int misses = van.halt(0, 4) + van.halt(1, 4) + van.halt(2, 4);
            int[] foreseen = new int[4];
            for (int what = 0; what < 4; what++) {
                foreseen[what] = van.foresee(days, what);
            }
            Check.isTrue("18: nothing is changed", before.equals(Check.picture(van)));
            Check.equal("18: loans", foreseen[0], van.pass(days));
            Check.equal("18: misses", foreseen[1],
                    van.halt(0, 4) + van.halt(1, 4) + van.halt(2, 4) - misses);
            Check.equal("18: books on the van", foreseen[2], van.count(5));
            Check.equal("18: pence", foreseen[3], van.count(7));
        }
        LibraryVan van = BooksAndReadersTest.atHome();
        van.addHalt();
        van.setRound(121, 300);
        van.addBook(0);
        van.addBook(0);
        van.addReader(0, 0, 20);
        Check.equal("18: loans of a day", van.foresee(1, 0), 2);
        Check.equal("18: misses of 7 days", van.foresee(7, 1), 7);
        Check.equal("18: none left", van.foresee(20, 2), 0);
        Check.equal("18: all back", van.foresee(21, 2), 2);
        Check.equal("18: owed for both", van.foresee(21, 3), 12);
        Check.equal("18: owed not yet", van.foresee(20, 3), 0);
    }

    /** It begins with the mud, the misses, the pence and the day that are now. */
    private static void promise18WhatIsNow() {
        LibraryVan van = HaltsAndRoundTest.withHalts(2);
        van.addLane(0, 1, 10, 9);
        van.addBook(0);
        van.addReader(0, 0, 16);
        van.setRain(0, 9);
        van.setRound(21, 40);
        van.pass(1);
        Check.equal("18: missed by the mud", van.halt(1, 4), 1);
        Check.equal("18: home is served", van.halt(0, 3), 1);
        Check.equal("18: missed by the mud that is left", van.foresee(3, 1), 3);
        Check.equal("18: then home is missed by the minutes", van.foresee(6, 1), 4);
        van.pass(6);
        Check.equal("18: home was missed once", van.halt(0, 4), 1);
        Check.equal("18: the other halt four times", van.halt(1, 4), 4);
        Check.equal("18: it rains again on the day 7", van.foresee(1, 1), 1);
        Check.equal("18: the book was lent on the day 0", van.foresee(9, 2), 0);
        Check.equal("18: it comes back on the day 16", van.foresee(10, 2), 1);
        Check.equal("18: two days late", van.foresee(10, 3), 2);
        van.pass(10);
        Check.equal("18: what is owed stays owed", van.foresee(60, 3), 2);
    }

    private static void promise18WrongForesee() {
        LibraryVan van = busy();
        Check.refusedArgument(van, "18: 0 days", () -> van.foresee(0, 0));
        Check.refusedArgument(van, "18: 61 days", () -> van.foresee(61, 0));
        Check.refusedArgument(van, "18: -5 days", () -> van.foresee(-5, 0));
        Check.refusedArgument(van, "18: argument ahead of index", () -> van.foresee(0, 4));
        Check.refusedIndex(van, "18: what -1", () -> van.foresee(1, -1));
        Check.refusedIndex(van, "18: what 4", () -> van.foresee(60, 4));
    }

    private static void promise19Gets() {
        LibraryVan van = BooksAndReadersTest.atHome();
        van.addBook(0);
        van.addBook(0);
        van.addReader(0, 0, 5);
        van.addReader(0, 1, 5);
        van.addReader(0, 0, 5);
        van.reserve(1, 0);
        van.reserve(2, 0);
        List<Long> before = Check.picture(van);
        Check.equal("19: on the day that is now", van.gets(1, 0), 1);
        Check.equal("19: behind the queue", van.gets(2, 0), 6);
        Check.equal("19: without a queue", van.gets(0, 1), 1);
        Check.equal("19: when both are done", van.gets(0, 0), 11);
        Check.equal("19: of another shelf", van.gets(1, 1), -1);
        Check.isTrue("19: nothing is changed", before.equals(Check.picture(van)));
        van.pass(1);
        Check.equal("19: has it now", van.gets(1, 0), 0);
        Check.equal("19: a day less", van.gets(2, 0), 5);
        van.pass(5);
        Check.equal("19: had it, not again", van.gets(1, 0), -1);
        van.reserve(1, 0);
        Check.equal("19: had it, and again", van.gets(1, 0), 5);
        Check.refusedIndex(van, "19: reader -1", () -> van.gets(-1, 0));
        Check.refusedIndex(van, "19: reader 3", () -> van.gets(3, 0));
        Check.refusedIndex(van, "19: book -1", () -> van.gets(0, -1));
        Check.refusedIndex(van, "19: book 2", () -> van.gets(0, 2));
    }

    /** Four readers ahead keep the book so long that the last gets it on the day 100, or 101. */
    private static void promise19Edge() {
        int[] due = {99, 100, -1};
        for (int more = 0; more < 3; more++) {
            LibraryVan van = BooksAndReadersTest.atHome();
            van.addBook(5);
            van.addReader(0, 0, 30);
            van.addReader(0, 0, 30);
            van.addReader(0, 0, 30);
            van.addReader(0, 0, 8 + more);
            van.addReader(0, 0, 1);
            for (int i = 0; i < 5; i++) {
                van.reserve(i, 0);
            }
            Check.equal("19: at most 100", van.gets(4, 0), due[more]);
        }
    }

    private static void promise20Advise() {
        LibraryVan van = HaltsAndRoundTest.withHalts(4);
        van.addLane(0, 1, 10, 0);
        van.addLane(0, 2, 10, 0);
        van.addLane(0, 3, 10, 0);
        for (int i = 0; i < 6; i++) {
            van.addBook(i % 2);
        }
        Check.equal("20: without readers none", van.advise(30), -1);
        van.addReader(2, 0, 9);
        Check.equal("20: where a reader comes", van.advise(1), 2);
        van.addReader(3, 0, 9);
        van.addReader(3, 1, 9);
        List<Long> before = Check.picture(van);
        Check.equal("20: where more loans are", van.advise(1), 3);
        Check.isTrue("20: nothing is changed", before.equals(Check.picture(van)));
        van.setRound(4, 120);
        Check.equal("20: the same once more", van.advise(1), 3);
        van.setRound(44, 120);
        Check.equal("20: all are lent without more", van.advise(3), -1);
        van.setRound(44, 44);
        Check.equal("20: no minutes for the other", van.advise(1), 3);
        van.setRound(4, 25);
        Check.equal("20: no minutes for more", van.advise(30), -1);
        van.setRound(0, 120);
        van.addReader(0, 1, 9);
        van.addReader(0, 1, 9);
        van.addReader(0, 1, 9);
        Check.equal("20: the home too", van.advise(1), 0);
    }

    private static void promise20OfSeveral() {
        LibraryVan van = HaltsAndRoundTest.withHalts(4);
        van.addLane(0, 1, 10, 0);
        van.addLane(0, 2, 10, 0);
        van.addLane(0, 3, 10, 0);
        van.addBook(0);
        van.addReader(3, 0, 9);
        van.addReader(2, 0, 9);
        Check.equal("20: of several the smallest number", van.advise(5), 2);
        van.setRound(4, 300);
        Check.equal("20: not more than without", van.advise(5), -1);
        Check.equal("20: more on later days", van.advise(30), 2);
    }

    private static void promise20WrongAdvise() {
        LibraryVan van = busy();
        Check.refusedArgument(van, "20: 0 days", () -> van.advise(0));
        Check.refusedArgument(van, "20: 31 days", () -> van.advise(31));
        van.setRound(2222222, 300);
        Check.equal("20: an eighth can be added", van.advise(1) >= -1 ? 1 : 0, 1);
        van.setRound(22222222, 300);
        Check.refusedState(van, "20: 8 halts", () -> van.advise(30));
        Check.refusedArgument(van, "20: argument ahead of state", () -> van.advise(31));
    }

    /** On the first day the halt 2 has more loans, later the halt 1. */
    private static void promise20Days() {
        LibraryVan van = HaltsAndRoundTest.withHalts(3);
        van.addLane(0, 1, 10, 0);
        van.addLane(0, 2, 10, 0);
        for (int i = 0; i < 12; i++) {
            van.addBook(i < 2 ? 1 : 0);
        }
        van.addReader(2, 1, 30);
        van.addReader(2, 1, 30);
        van.addReader(1, 0, 1);
        Check.equal("20: best in a day", van.advise(1), 2);
        Check.equal("20: as good in two days", van.advise(2), 1);
        Check.equal("20: best in ten days", van.advise(10), 1);
    }

    private static void promise21Daily() {
        LibraryVan van = BooksAndReadersTest.atHome();
        van.addBook(0);
        van.addReader(0, 0, 1);
        Check.equal("21: on the day 0", van.daily(), 0.0);
        van.foresee(5, 0);
        Check.equal("21: still on the day 0", van.daily(), 0.0);
        van.pass(1);
        Check.equal("21: a loan on a day", van.daily(), 1.0);
        van.pass(1);
        Check.equal("21: a loan in two days", van.daily(), 0.5);
        van.pass(1);
        Check.equal("21: a loan in three days", van.daily(), 1.0 / 3.0);
        van.addBook(0);
        van.pass(4);
        Check.equal("21: two loans in seven days", van.daily(), 2.0 / 7.0);
    }

    private static void promise22Digest() {
        LibraryVan van = busy();
        for (int day = 0; day < 40; day++) {
            van.pass(1);
            Check.equal("22: the digest of the day " + day, van.digest(), dueDigest(van));
        }
        van.foresee(60, 0);
        van.advise(30);
        van.gets(0, 7);
        Check.equal("22: looking ahead is not seen", van.digest(), dueDigest(van));
    }

    /** By what busy() sets, and what the other calls tell. */
    private static long dueDigest(LibraryVan van) {
        long d = 607;
        for (int what = 0; what < 10; what++) {
            d = d * 31 + van.count(what);
        }
        for (int rain : new int[] {0, 0, 8, 3, 0, 0, 0}) {
            d = d * 31 + rain;
        }
        for (int halt : new int[] {1, 2, 1}) {
            d = d * 31 + halt;
        }
        for (int halt = 0; halt < 3; halt++) {
            for (int what = 0; what < 5; what++) {
                d = d * 31 + van.halt(halt, what);
            }
        }
        for (int lane = 0; lane < 2; lane++) {
            for (int what = 0; what < 6; what++) {
                d = d * 31 + van.lane(lane, what);
            }
        }
        for (int book = 0; book < 8; book++) {
            for (int what = 0; what < 7; what++) {
                d = d * 31 + van.book(book, what);
            }
            // No queue of busy() is longer than two, and of two the reader 0 is the last one.
            if (van.book(book, 3) > 0) {
                d = d * 31 + van.book(book, 4);
            }
            if (van.book(book, 3) > 1) {
                d = d * 31;
            }
        }
        for (int reader = 0; reader < 3; reader++) {
            for (int what = 0; what < 8; what++) {
                d = d * 31 + van.reader(reader, what);
            }
        }
        return d;
    }

    private static void promise22EachNumber() {
        LibraryVan van = busy();
        long before = van.digest();
        van.setRain(6, 1);
        Check.isTrue("22: by the rain", van.digest() != before);
        van.setRain(6, 0);
        Check.equal("22: as before", van.digest(), before);
        van.setRound(223, 90);
        Check.isTrue("22: by the order of the round", van.digest() != before);
        van.setRound(232, 90);
        van.cancel(2, 0);
        van.reserve(2, 0);
        Check.isTrue("22: by the order of a queue", van.digest() != before);
        van.cancel(0, 0);
        van.reserve(0, 0);
        Check.equal("22: as at first", van.digest(), before);
        van.setRound(232, 91);
        Check.equal("22: not by the minutes", van.digest(), before);
    }
}
