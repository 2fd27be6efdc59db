import java.util.ArrayList;
import java.util.List;

/**
 * The edges that the document names for days, counts and looking ahead, and for an object as a
 * whole: a test for each sentence, which stands ahead of it. "T" tells a sentence of the Terms.
 */
public final class EdgesOfDaysTest {
    private static final int LEAST = Integer.MIN_VALUE;
    private static final int MOST = Integer.MAX_VALUE;

    private EdgesOfDaysTest() {
    }

    public static void main(String[] args) {
        aNewVan();
        pass1To60();
        countWhat0To9();
        mostOfCounts();
        minutesOfTheLatestDay();
        minutesAheadOfTheFirstDay();
        minutesIfItServedNone();
        foresee1To60();
        foreseeWhat0To3();
        foreseeFromAnyDay();
        aheadFromTheMudOfNow();
        aheadThroughTheRainToCome();
        gets0And1();
        getsAtMost100();
        getsNever();
        getsNoSuch();
        advise1To30();
        adviseOnTheLastDay();
        adviseOfARoundOf7();
        adviseOfARoundOf8();
        adviseOfSeveral();
        adviseNotMoreThanWithout();
        dailyOnTheDay0();
        dailyIsNotCut();
        digestWrapsAround();
        digestOfAll();
        first512Calls();
        longUse();
        vansOfTheirOwn();
        Check.end();
    }

    private static LibraryVan atHome() {
        return BooksAndReadersTest.atHome();
    }

    /** A van that lends at home on the first day, and again when the reader 0 is done. */
    private static LibraryVan oneBehindAnother(int keeps) {
        LibraryVan van = atHome();
        van.addBook(0);
        van.addReader(0, 5, keeps);
        van.addReader(0, 5, 30);
        van.reserve(0, 0);
        van.reserve(1, 0);
        return van;
    }

    /** Promise 1: "Creates a van without halts, books and readers, on the day 0." */
    private static void aNewVan() {
        LibraryVan van = new LibraryVan();
        for (int what = 0; what <= 9; what++) {
            Check.equal("1: count(" + what + ")", van.count(what), 0);
        }
        Check.equal("1: advise", van.advise(1), -1);
        Check.equal("1: foresee loans", van.foresee(60, 0), 0);
        Check.equal("1: foresee misses", van.foresee(60, 1), 0);
        Check.equal("1: foresee books on the van", van.foresee(60, 2), 0);
        Check.equal("1: foresee pence", van.foresee(60, 3), 0);
        Check.refusedIndex(van, "1: gets", () -> van.gets(0, 0));
        Check.refusedIndex(van, "1: pay", () -> van.pay(0, 1));
        Check.equal("1: days can pass", van.pass(60), 0);
        Check.equal("1: and are told", van.count(0), 60);
    }

    /** Promise 16: "if days is not 1 to 60". */
    private static void pass1To60() {
        LibraryVan van = oneBehindAnother(3);
        for (int wrong : new int[] {LEAST, -60, -1, 0, 61, MOST}) {
            Check.refusedArgument(van, "16: days " + wrong, () -> van.pass(wrong));
        }
        Check.equal("16: still the day 0", van.count(0), 0);
        Check.equal("16: a loan in 1 day", van.pass(1), 1);
        Check.equal("16: the day 1", van.count(0), 1);
        Check.equal("16: a loan in 60 days", van.pass(60), 1);
        Check.equal("16: the day 61", van.count(0), 61);
        LibraryVan edge = oneBehindAnother(30);
        Check.equal("16: the loans of these days alone", edge.pass(30), 1);
        Check.equal("16: that of the day 30", edge.pass(1), 1);
    }

    /** Promise 17: "if what is not 0 to 9". */
    private static void countWhat0To9() {
        LibraryVan van = oneBehindAnother(3);
        for (int wrong : new int[] {LEAST, -1, 10, MOST}) {
            Check.refusedIndex(van, "17: what " + wrong, () -> van.count(wrong));
        }
        int[] due = {0, 1, 0, 1, 2, 1, 0, 0, 0, 0};
        for (int what = 0; what <= 9; what++) {
            Check.equal("17: count(" + what + ")", van.count(what), due[what]);
        }
    }

    /** Promise 17: the most of all that can be counted. */
    private static void mostOfCounts() {
        LibraryVan van = full();
        int[] before = {0, 8, 16, 24, 10, 24, 0, 0, 0, 0};
        for (int what = 0; what <= 9; what++) {
            Check.equal("17: a full van, " + what, van.count(what), before[what]);
        }
        van.setRain(0, 9);
        van.pass(1);
        // Only home is served, by the ten readers who all come there.
        int[] then = {1, 8, 16, 24, 10, 14, 10, 0, 16, 5};
        for (int what = 0; what <= 9; what++) {
            Check.equal("17: a full van in the rain, " + what, van.count(what), then[what]);
        }
        van.pass(2);
        Check.equal("17: the van is empty", van.count(5), 0);
        Check.equal("17: all were lent", van.count(6), 24);
    }

    /** 8 halts, 16 lanes, 24 books, 10 readers at home, and a round of 8 halts. */
    private static LibraryVan full() {
        LibraryVan van = HaltsAndRoundTest.withHalts(8);
        for (int i = 0; i < 16; i++) {
            van.addLane(i % 8, (i + 1) % 8, 1, 9);
        }
        for (int i = 0; i < 24; i++) {
            van.addBook(0);
        }
        for (int i = 0; i < 10; i++) {
            van.addReader(0, 0, 30);
        }
        van.setRound(23456781, 300);
        return van;
    }

    /** Promise 17: "the minutes that it used on the latest day, and those home". */
    private static void minutesOfTheLatestDay() {
        LibraryVan van = HaltsAndRoundTest.withHalts(3);
        van.addLane(0, 1, 10, 0);
        van.addLane(1, 2, 12, 0);
        van.setRound(3, 300);
        van.pass(1);
        Check.equal("17: there and home", van.count(9), 22 + 5 + 22);
        van.setRound(321, 300);
        van.pass(1);
        Check.equal("17: the last halt is home", van.count(9), 22 + 5 + 12 + 5 + 10 + 5);
        van.setRound(2, 300);
        van.pass(60);
        Check.equal("17: of the last of several days", van.count(9), 10 + 5 + 10);
        van.addBook(0);
        van.addReader(2, 0, 1);
        van.foresee(60, 0);
        van.gets(0, 0);
        Check.equal("17: not of days ahead", van.count(9), 25);
        van.advise(30);
        Check.equal("17: nor of other rounds", van.count(9), 25);
    }

    /** "(0, ... or ahead of the first day)". */
    private static void minutesAheadOfTheFirstDay() {
        LibraryVan van = atHome();
        Check.equal("17: ahead of the first day", van.count(9), 0);
        van.foresee(60, 0);
        Check.equal("17: looked ahead, still ahead of it", van.count(9), 0);
        van.pass(1);
        Check.equal("17: behind it", van.count(9), 5);
    }

    /** "(0, if it served none". */
    private static void minutesIfItServedNone() {
        LibraryVan van = HaltsAndRoundTest.withHalts(2);
        van.addLane(0, 1, 10, 0);
        van.setRound(2, 25);
        van.pass(1);
        Check.equal("17: served one", van.count(9), 25);
        van.setRound(2, 24);
        van.pass(1);
        Check.equal("17: missed it", van.count(9), 0);
        van.setRound(2, 25);
        van.pass(1);
        Check.equal("17: served it again", van.count(9), 25);
        van.setRound(0, 25);
        van.pass(1);
        Check.equal("17: an empty round", van.count(9), 0);
    }

    /** Promise 18: "how many, 1 to 60". */
    private static void foresee1To60() {
        LibraryVan van = oneBehindAnother(30);
        for (int wrong : new int[] {LEAST, -1, 0, 61, MOST}) {
            Check.refusedArgument(van, "18: days " + wrong, () -> van.foresee(wrong, 0));
            Check.refusedArgument(van, "18: ahead of what -1", () -> van.foresee(wrong, -1));
            Check.refusedArgument(van, "18: ahead of what 4", () -> van.foresee(wrong, 4));
        }
        Check.equal("18: loans in 1 day", van.foresee(1, 0), 1);
        Check.equal("18: loans in 30 days", van.foresee(30, 0), 1);
        Check.equal("18: loans in 31 days", van.foresee(31, 0), 2);
        Check.equal("18: pence in 30 days", van.foresee(30, 3), 0);
        Check.equal("18: pence in 31 days", van.foresee(31, 3), 16);
        Check.equal("18: on the van in 60 days", van.foresee(60, 2), 0);
        van.pass(1);
        Check.equal("18: on the van in 59 days", van.foresee(59, 2), 0);
        Check.equal("18: on the van in 60 days then", van.foresee(60, 2), 1);
        Check.equal("18: pence in 60 days then", van.foresee(60, 3), 32);
    }

    /** Promise 18: "if what is not 0 to 3". */
    private static void foreseeWhat0To3() {
        LibraryVan van = oneBehindAnother(2);
        for (int wrong : new int[] {LEAST, -1, 4, MOST}) {
            Check.refusedIndex(van, "18: what " + wrong, () -> van.foresee(1, wrong));
            Check.refusedIndex(van, "18: what " + wrong + ", 60", () -> van.foresee(60, wrong));
        }
        van.addHalt();
        van.setRound(21212121, 10);
        int[] due = {1, 6, 0, 0};
        for (int what = 0; what <= 3; what++) {
            // Four times home and four times a halt without a way: twice home in 10 minutes.
            Check.equal("18: what " + what, van.foresee(1, what), due[what]);
        }
        Check.equal("18: misses of 60 days", van.foresee(60, 1), 360);
    }

    /** "Returns this, if nothing else is done (nothing is changed)": what was, does not count. */
    private static void foreseeFromAnyDay() {
        LibraryVan van = oneBehindAnother(30);
        van.addHalt();
        van.setRound(12, 300);
        van.pass(31);
        List<Long> before = Check.picture(van);
        Check.equal("18: no loans more", van.foresee(60, 0), 0);
        Check.equal("18: a miss a day", van.foresee(60, 1), 60);
        Check.equal("18: back on the day 60", van.foresee(29, 2), 0);
        Check.equal("18: and then on the van", van.foresee(30, 2), 1);
        Check.equal("18: with what is owed now", van.foresee(29, 3), 16);
        Check.equal("18: and what comes to it", van.foresee(30, 3), 32);
        Check.isTrue("18: nothing is changed", before.equals(Check.picture(van)));
    }

    /** A reader at the halt 1, and a lane of clay 4 to it, with this mud at the day 2. */
    private static LibraryVan withMud(int mud) {
        LibraryVan van = HaltsAndRoundTest.withHalts(2);
        van.addLane(0, 1, 10, 4);
        van.addBook(0);
        van.addReader(1, 0, 30);
        van.setRain(0, 9);
        van.setRain(1, mud - 9);
        van.pass(2);
        Check.equal("18: the mud now", van.lane(0, 4), mud);
        return van;
    }

    /** Promises 18 to 20, by the mud "as it is now", which dries by 2 ahead of the round. */
    private static void aheadFromTheMudOfNow() {
        int[] muds = {12, 13, 14, 15, 16, 17, 18};
        int[] due = {1, 1, 1, 2, 2, 3, 3};
        for (int i = 0; i < muds.length; i++) {
            LibraryVan van = withMud(muds[i]);
            Check.equal("20: not in a day less", van.advise(Math.max(1, due[i] - 1)),
                    due[i] == 1 ? 1 : -1);
            Check.equal("20: in so many days, mud " + muds[i], van.advise(due[i]), 1);
            van.setRound(2, 300);
            Check.equal("19: mud " + muds[i], van.gets(0, 0), due[i]);
            Check.equal("18: missed, mud " + muds[i], van.foresee(4, 1), due[i] - 1);
            Check.equal("18: served in so many days", van.foresee(due[i], 0), 1);
            Check.equal("18: the mud stays", van.lane(0, 4), muds[i]);
            Check.equal("18: it comes so", van.pass(due[i]), 1);
        }
    }

    /** Promises 18 to 20, by the rain of the table from the day that is now on. */
    private static void aheadThroughTheRainToCome() {
        LibraryVan van = withMud(12);
        van.setRound(2, 300);
        van.setRain(2, 1);
        Check.equal("19: from 12 to 13, and then to 11", van.gets(0, 0), 2);
        van.setRain(2, 2);
        van.setRain(3, 0);
        Check.equal("19: from 12 to 14, and then to 12", van.gets(0, 0), 2);
        van.setRain(2, 3);
        Check.equal("19: from 12 to 15, 13 and 11", van.gets(0, 0), 3);
        Check.equal("18: missed twice in the rest of the week", van.foresee(5, 1), 2);
        Check.equal("18: in 3 days", van.foresee(3, 0), 1);
        Check.equal("18: not in 2 days", van.foresee(2, 0), 0);
        van.setRound(0, 300);
        Check.equal("20: in 3 days", van.advise(3), 1);
        Check.equal("20: not in 2 days", van.advise(2), -1);
        for (int day = 0; day < 7; day++) {
            van.setRain(day, 1);
        }
        van.setRound(2, 300);
        Check.equal("19: not in a wet year", van.gets(0, 0), -1);
        Check.equal("20: nor with more", van.advise(30), -1);
    }

    /** Promise 19: "(1 if it is lent in the day that is now); 0 if this one has it now". */
    private static void gets0And1() {
        LibraryVan van = oneBehindAnother(1);
        Check.equal("19: in the day that is now", van.gets(0, 0), 1);
        Check.equal("19: in the next day", van.gets(1, 0), 2);
        van.pass(1);
        Check.equal("19: has it now", van.gets(0, 0), 0);
        Check.equal("19: now the day has come", van.gets(1, 0), 1);
        van.pass(1);
        Check.equal("19: had it, not again", van.gets(0, 0), -1);
        Check.equal("19: has it", van.gets(1, 0), 0);
        van.reserve(0, 0);
        Check.equal("19: has it, though another waits", van.gets(1, 0), 0);
        Check.equal("19: behind 30 days", van.gets(0, 0), 30);
        van.pass(29);
        Check.equal("19: still has it", van.gets(1, 0), 0);
        Check.equal("19: on the day it comes back", van.gets(0, 0), 1);
    }

    /** "at most 100"; "-1 if not within so many". */
    private static void getsAtMost100() {
        LibraryVan van = atHome();
        van.addBook(5);
        for (int reader = 0; reader < 4; reader++) {
            van.addReader(0, 0, reader < 3 ? 30 : 10);
            van.reserve(reader, 0);
        }
        van.addReader(0, 0, 1);
        van.reserve(4, 0);
        Check.equal("19: behind 3 times 30 days", van.gets(3, 0), 91);
        Check.equal("19: not within 100", van.gets(4, 0), -1);
        long digest = van.digest();
        van.pass(1);
        Check.equal("19: now within 100", van.gets(4, 0), 100);
        Check.isTrue("19: a day went by", van.digest() != digest);
        van.pass(1);
        Check.equal("19: within 99", van.gets(4, 0), 99);
        van.pass(60);
        van.pass(38);
        Check.equal("19: the day has come", van.gets(4, 0), 1);
        van.pass(1);
        Check.equal("19: has it", van.gets(4, 0), 0);
        Check.equal("19: since the day 100", van.book(0, 2), 100);
    }

    /** "-1 if not within so many (nothing is changed)". */
    private static void getsNever() {
        LibraryVan van = oneBehindAnother(30);
        van.setRound(0, 300);
        List<Long> before = Check.picture(van);
        Check.equal("19: without a round", van.gets(0, 0), -1);
        Check.isTrue("19: nothing is changed", before.equals(Check.picture(van)));
        van.setRound(1, 300);
        Check.equal("19: with one", van.gets(0, 0), 1);
        van.cancel(0, 0);
        Check.equal("19: of another shelf, not reserved", van.gets(0, 0), -1);
        Check.equal("19: now the other one is first", van.gets(1, 0), 1);
    }

    /** "if there is no such reader or book". */
    private static void getsNoSuch() {
        LibraryVan van = full();
        for (int wrong : new int[] {LEAST, -1, 10, MOST}) {
            Check.refusedIndex(van, "19: reader " + wrong, () -> van.gets(wrong, 23));
        }
        for (int wrong : new int[] {LEAST, -1, 24, MOST}) {
            Check.refusedIndex(van, "19: book " + wrong, () -> van.gets(9, wrong));
        }
        Check.equal("19: the last of both", van.gets(9, 9), 1);
        LibraryVan none = atHome();
        none.addBook(0);
        Check.refusedIndex(none, "19: a book, no reader", () -> none.gets(0, 0));
    }

    /** Promise 20: "how many, 1 to 30". */
    private static void advise1To30() {
        LibraryVan van = atHome();
        van.addBook(0);
        van.addReader(0, 0, 1);
        van.setRound(0, 300);
        for (int wrong : new int[] {LEAST, -1, 0, 31, 60, MOST}) {
            Check.refusedArgument(van, "20: days " + wrong, () -> van.advise(wrong));
        }
        Check.equal("20: 1 day", van.advise(1), 0);
        Check.equal("20: 30 days", van.advise(30), 0);
        van.setRound(11111111, 300);
        for (int wrong : new int[] {LEAST, -1, 0, 31, MOST}) {
            Check.refusedArgument(van, "20: days ahead of 8 halts", () -> van.advise(wrong));
        }
    }

    /** "the most loans in so many days": the last of them counts, the day behind it does not. */
    private static void adviseOnTheLastDay() {
        for (int days = 2; days <= 30; days++) {
            LibraryVan van = HaltsAndRoundTest.withHalts(2);
            van.addLane(0, 1, 1, 0);
            van.addBook(0);
            van.addReader(0, 0, days - 1);
            van.addReader(1, 0, 1);
            van.setRound(1, 300);
            // The book is back at home on the last of the days, and then lent at the halt 1.
            Check.equal("20: on the last of " + days + " days", van.advise(days), 1);
            Check.equal("20: not in a day less", van.advise(days - 1), -1);
        }
    }

    /** "Throws IllegalStateException if the round has 8 halts": with 7 it does not. */
    private static void adviseOfARoundOf7() {
        LibraryVan van = atHome();
        van.addHalt();
        van.addLane(0, 1, 1, 0);
        van.addBook(0);
        van.addReader(1, 0, 1);
        van.setRound(1111111, 300);
        Check.equal("20: the eighth", van.advise(1), 1);
        Check.equal("20: it was not added", van.halt(1, 2), 0);
        van.setRound(1111111, 41);
        Check.equal("20: 35, 1, 5 and 1 are a minute more than 41", van.advise(1), -1);
        van.setRound(1111111, 42);
        Check.equal("20: and just 42", van.advise(1), 1);
    }

    private static void adviseOfARoundOf8() {
        LibraryVan van = full();
        Check.refusedState(van, "20: 8 halts, 1 day", () -> van.advise(1));
        Check.refusedState(van, "20: 8 halts, 30 days", () -> van.advise(30));
        Check.refusedArgument(van, "20: 8 halts, 31 days", () -> van.advise(31));
        van.setRound(2345678, 300);
        Check.equal("20: home is the eighth", van.advise(1), 0);
    }

    /** "of several the one with the smallest number". */
    private static void adviseOfSeveral() {
        LibraryVan van = HaltsAndRoundTest.withHalts(8);
        for (int halt = 1; halt < 8; halt++) {
            van.addLane(0, halt, 1, 0);
            van.addBook(0);
        }
        for (int halt = 7; halt >= 1; halt--) {
            van.addReader(halt, 0, 30);
            Check.equal("20: as good as those behind it", van.advise(1), halt);
        }
        van.addReader(0, 0, 30);
        Check.equal("20: home is as good", van.advise(1), 0);
        van.addReader(7, 0, 30);
        Check.equal("20: the last is better", van.advise(1), 7);
        van.addReader(5, 0, 30);
        Check.equal("20: as good as the last", van.advise(1), 5);
    }

    /** "but none, if these are not more than without". */
    private static void adviseNotMoreThanWithout() {
        LibraryVan van = HaltsAndRoundTest.withHalts(3);
        van.addLane(0, 1, 1, 0);
        van.addLane(0, 2, 1, 0);
        Check.equal("20: no loans at all", van.advise(30), -1);
        van.addBook(0);
        van.addReader(1, 0, 30);
        van.addReader(2, 0, 30);
        van.setRound(2, 300);
        Check.equal("20: the one book is lent without", van.advise(30), -1);
        van.addBook(0);
        Check.equal("20: one more than without, by 1 again or by 2", van.advise(1), 1);
        Check.equal("20: both are lent in two days without", van.advise(2), -1);
        van.setRound(22, 300);
        Check.equal("20: both are lent in a day without", van.advise(30), -1);
    }

    /** Promise 21: "0 on the day 0". */
    private static void dailyOnTheDay0() {
        LibraryVan van = oneBehindAnother(1);
        Check.equal("21: on the day 0", van.daily(), 0.0);
        Check.isTrue("21: not below 0", 1.0 / van.daily() > 0.0);
        van.pass(1);
        Check.equal("21: on the day 1", van.daily(), 1.0);
        LibraryVan none = new LibraryVan();
        none.pass(1);
        Check.equal("21: no loans in a day", none.daily(), 0.0);
    }

    /** "all loans, divided by the days that went by", which is not cut. */
    private static void dailyIsNotCut() {
        LibraryVan van = full();
        van.pass(1);
        Check.equal("21: 10 in a day", van.daily(), 10.0);
        van.pass(1);
        Check.equal("21: 20 in two days", van.daily(), 10.0);
        van.pass(1);
        Check.equal("21: 24 in three days", van.daily(), 8.0);
        van.pass(4);
        Check.equal("21: 24 in seven days", van.daily(), 24.0 / 7.0);
        van.pass(18);
        Check.equal("21: 24 in 25 days", van.daily(), 0.96);
        LibraryVan few = oneBehindAnother(30);
        few.pass(60);
        few.pass(60);
        Check.equal("21: 2 in 120 days", few.daily(), 2.0 / 120.0);
    }

    /** Promise 22: "which wraps around as a 64-bit integer". */
    private static void digestWrapsAround() {
        Check.equal("22: 607 and 17 zeros", new LibraryVan().digest(), Check.digestOf(new int[17]));
        LibraryVan van = HaltsAndRoundTest.withHalts(1);
        int[] due = new int[22];
        due[1] = 1;
        Check.equal("22: with a halt", van.digest(), Check.digestOf(due));
    }

    /** "(all in their order)", with -1, a full round and full queues. */
    private static void digestOfAll() {
        LibraryVan van = full();
        Check.equal("22: a full van", van.digest(), dueDigest(van, new int[7], new int[24][0]));
        int[][] queues = new int[24][];
        for (int book = 0; book < 24; book++) {
            queues[book] = new int[book % 11];
            for (int place = 0; place < queues[book].length; place++) {
                queues[book][place] = (3 * place + book) % 10;
                van.reserve(queues[book][place], book);
            }
        }
        int[] rain = {9, 8, 7, 6, 0, 4, 3};
        for (int day = 0; day < 7; day++) {
            van.setRain(day, rain[day]);
        }
        Check.equal("22: with queues and rain", van.digest(), dueDigest(van, rain, queues));
        van.setRound(0, 10);
        van.pass(3);
        van.setRound(23456781, 10);
        Check.equal("22: with mud", van.digest(), dueDigest(van, rain, queues));
    }

    /** Of a van with the round of full(), by what its other calls tell. */
    private static long dueDigest(LibraryVan van, int[] rain, int[][] queues) {
        List<Integer> x = new ArrayList<>();
        for (int what = 0; what <= 9; what++) {
            x.add(van.count(what));
        }
        for (int one : rain) {
            x.add(one);
        }
        x.addAll(List.of(1, 2, 3, 4, 5, 6, 7, 0));
        for (int i = 0; i < 8 * 5; i++) {
            x.add(van.halt(i / 5, i % 5));
        }
        for (int i = 0; i < 16 * 6; i++) {
            x.add(van.lane(i / 6, i % 6));
        }
        for (int book = 0; book < 24; book++) {
            for (int what = 0; what <= 6; what++) {
                x.add(van.book(book, what));
            }
            for (int reader : queues[book]) {
                x.add(reader);
            }
        }
        for (int i = 0; i < 10 * 8; i++) {
            x.add(van.reader(i / 8, i % 8));
        }
        return Check.digestOf(x.stream().mapToInt(Integer::intValue).toArray());
    }

    /** "An object is used for at most 512 calls after it has been made". */
    private static void first512Calls() {
        LibraryVan van = atHome();
        van.addBook(0);
        van.addReader(0, 0, 1);
        // atHome makes two calls, and these are two more.
        int calls = 4;
        Check.equal("512: the loan of the first days", van.pass(60), 1);
        calls++;
        van.reserve(0, 0);
        calls++;
        Check.equal("512: the day on which it is lent again", van.pass(1), 1);
        calls++;
        van.setRound(0, 300);
        calls++;
        while (calls < 509) {
            van.pass(60);
            calls++;
        }
        van.setRound(1, 300);
        van.pass(1);
        int days = 61 + (509 - 8) * 60 + 1;
        Check.equal("512: the last call", van.digest(), Check.digestOf(
                days, 1, 0, 1, 1, 1, 2, days - 1 - 60 - 14, 0, 5,
                0, 0, 0, 0, 0, 0, 0,
                0,
                1, 0, 1, 62, 0,
                0, -1, -1, 0, -1, 2, 1,
                0, 0, 1, 0, 1, days - 1 - 60 - 14, 0, 2));
    }

    /** As many halts are served and missed in 512 calls as can be. */
    private static void longUse() {
        LibraryVan van = atHome();
        van.setRound(11111111, 35);
        for (int call = 3; call < 510; call++) {
            van.pass(60);
        }
        Check.equal("512: served", van.halt(0, 3), 507 * 60 * 7);
        Check.equal("512: missed", van.halt(0, 4), 507 * 60);
    }

    /** Promise 1: each object is a van of its own. */
    private static void vansOfTheirOwn() {
        LibraryVan one = full();
        long digest = one.digest();
        LibraryVan other = new LibraryVan();
        Check.equal("1: the other one is empty", other.count(1), 0);
        other.addHalt();
        other.setRain(0, 9);
        other.setRound(1, 10);
        other.pass(60);
        other.foresee(60, 0);
        other.advise(30);
        Check.equal("1: the one is left alone", one.digest(), digest);
        Check.equal("1: and foresees its own days", one.foresee(1, 0), 10);
        Check.equal("1: as does the other", other.foresee(1, 0), 0);
    }
}
