import java.util.List;

/**
 * The edges that the document names for halts, lanes, rain, the round and ways: a test for each
 * sentence, which stands ahead of it. "T" in front of a line tells a sentence of the Terms.
 */
public final class EdgesOfHaltsTest {
    private static final int LEAST = Integer.MIN_VALUE;
    private static final int MOST = Integer.MAX_VALUE;

    private EdgesOfHaltsTest() {
    }

    public static void main(String[] args) {
        atMost8Halts();
        theHalt0IsHome();
        atMost16Lanes();
        betweenTwoDifferentHalts();
        inBothDirections();
        length1To30();
        clay0To9();
        mudAtFirst();
        mudAtMost20();
        mudAtLeast0();
        rainAndClayDividedBy4();
        usableToMud12();
        mudDividedBy2();
        quickestWay();
        timeToTheSameHalt();
        longestWay();
        rain0To9();
        remainderOf7();
        remainderOfLateDays();
        roundEmptyAtFirst();
        roundAtMost8();
        numberOfTheRound();
        digitsOfTheRound();
        minutes10To300();
        minutes120AtFirst();
        beginsAtHomeEachDay();
        justEnoughMinutes();
        noWayToTheHalt();
        mudAsItIsNow();
        missedStaysWhereItIs();
        twiceInTheRound();
        answersOfHalts();
        answersOfLanes();
        Check.end();
    }

    private static LibraryVan withHalts(int halts) {
        return HaltsAndRoundTest.withHalts(halts);
    }

    /** Two halts, and between them a lane of length 10 that takes a minute for 2 of mud. */
    private static LibraryVan afterRain(int... rains) {
        LibraryVan van = withHalts(2);
        // With the clay 4 the mud grows by just as much as it rains.
        van.addLane(0, 1, 10, 4);
        for (int rain : rains) {
            dayWithRain(van, rain);
        }
        return van;
    }

    private static int dayWithRain(LibraryVan van, int rain) {
        van.setRain(van.count(0) % 7, rain);
        return van.pass(1);
    }

    private static int mudAfter(int... rains) {
        return afterRain(rains).lane(0, 4);
    }

    /** A row of halts, each a lane of this length from the one ahead of it. */
    private static LibraryVan row(int... lengths) {
        LibraryVan van = withHalts(lengths.length + 1);
        for (int i = 0; i < lengths.length; i++) {
            van.addLane(i, i + 1, lengths[i], 4);
        }
        return van;
    }

    private static int missed(LibraryVan van) {
        int missed = 0;
        for (int halt = 0; halt < van.count(1); halt++) {
            missed += van.halt(halt, 4);
        }
        return missed;
    }

    /** "There are at most 8 halts, numbered from 0 in the order of their naming". */
    private static void atMost8Halts() {
        LibraryVan van = new LibraryVan();
        Check.refusedIndex(van, "T: way(0, 0) without halts", () -> van.way(0, 0));
        for (int i = 0; i < 8; i++) {
            int next = i;
            Check.refusedIndex(van, "T: not yet named", () -> van.halt(next, 0));
            Check.equal("T: the number of a halt", van.addHalt(), i);
            Check.equal("T: it is there", van.way(i, i), 0);
        }
        Check.refusedState(van, "T: a ninth halt", van::addHalt);
        Check.refusedState(van, "T: and again", van::addHalt);
        Check.refusedIndex(van, "T: no halt 8", () -> van.halt(8, 0));
        Check.refusedIndex(van, "T: no way to it", () -> van.way(0, 8));
        Check.refusedIndex(van, "T: no lane to it", () -> van.addLane(0, 8, 1, 0));
        Check.refusedIndex(van, "T: no reader there", () -> van.addReader(8, 0, 1));
        Check.refusedArgument(van, "T: no round to it", () -> van.setRound(9, 120));
        Check.equal("T: a lane to the last", van.addLane(7, 0, 1, 0), 0);
        Check.equal("T: a reader at the last", van.addReader(7, 0, 1), 0);
        Check.equal("T: a round to the last", van.setRound(8, 120), 1);
    }

    /** "the halt 0 is the home of the van". */
    private static void theHalt0IsHome() {
        LibraryVan van = withHalts(2);
        van.setRound(12, 300);
        van.pass(1);
        Check.equal("T: at home without a lane", van.halt(0, 3), 1);
        Check.equal("T: from home without a lane", van.halt(1, 4), 1);
        Check.equal("T: only the time there", van.count(9), 5);
    }

    /** "There are at most 16 lanes, numbered likewise". */
    private static void atMost16Lanes() {
        LibraryVan van = withHalts(8);
        for (int i = 0; i < 16; i++) {
            int next = i;
            Check.refusedIndex(van, "T: not yet told", () -> van.lane(next, 0));
            Check.equal("T: the number of a lane", van.addLane(i % 8, (i + 1) % 8, 2, 0), i);
        }
        Check.equal("T: the lane 15", van.lane(15, 0), 7);
        Check.refusedIndex(van, "T: no lane 16", () -> van.lane(16, 0));
        Check.refusedState(van, "T: a lane too many", () -> van.addLane(0, 1, 1, 0));
        Check.refusedState(van, "T: where no lane is too", () -> van.addLane(0, 4, 1, 0));
        Check.refusedArgument(van, "3: length ahead of 16", () -> van.addLane(0, 1, 0, 0));
        Check.refusedArgument(van, "3: clay ahead of 16", () -> van.addLane(0, 1, 1, 10));
        Check.refusedIndex(van, "3: halt ahead of 16", () -> van.addLane(0, 8, 1, 0));
        Check.equal("T: each counts", van.way(0, 4), 8);
    }

    /** "each goes between two different halts". */
    private static void betweenTwoDifferentHalts() {
        LibraryVan van = withHalts(8);
        for (int halt = 0; halt < 8; halt++) {
            int same = halt;
            Check.refusedArgument(van, "T: from " + halt + " to itself",
                    () -> van.addLane(same, same, 1, 0));
        }
        Check.refusedIndex(van, "3: no such halt ahead of both the same",
                () -> van.addLane(8, 8, 1, 0));
        Check.refusedIndex(van, "3: nor below", () -> van.addLane(-1, -1, 1, 0));
        Check.refusedIndex(van, "3: b ahead of the length", () -> van.addLane(0, MOST, 0, 0));
        Check.refusedIndex(van, "3: a ahead of the clay", () -> van.addLane(LEAST, 0, 1, -1));
        Check.equal("T: no lane was told", van.count(2), 0);
    }

    /** "in both directions (there can be several between the same ones)". */
    private static void inBothDirections() {
        LibraryVan van = withHalts(2);
        Check.equal("T: told away from home", van.addLane(0, 1, 20, 0), 0);
        Check.equal("T: there", van.way(0, 1), 20);
        Check.equal("T: back", van.way(1, 0), 20);
        Check.equal("T: another one, told the other way", van.addLane(1, 0, 10, 0), 1);
        Check.equal("T: the quicker one there", van.way(0, 1), 10);
        Check.equal("T: the quicker one back", van.way(1, 0), 10);
        Check.equal("T: a third one, as the first", van.addLane(0, 1, 20, 0), 2);
        Check.equal("T: three lanes at home", van.halt(0, 1), 3);
        Check.equal("T: three at the other end", van.halt(1, 1), 3);
    }

    /** "has a length, 1 to 30". */
    private static void length1To30() {
        LibraryVan van = withHalts(2);
        for (int wrong : new int[] {LEAST, -1, 0, 31, MOST}) {
            Check.refusedArgument(van, "T: length " + wrong, () -> van.addLane(0, 1, wrong, 0));
        }
        Check.equal("T: length 30 is told", van.addLane(0, 1, 30, 0), 0);
        Check.equal("T: and takes 30", van.way(0, 1), 30);
        Check.equal("T: length 1 is told", van.addLane(0, 1, 1, 0), 1);
        Check.equal("T: and takes 1", van.way(0, 1), 1);
        Check.equal("T: the length 30", van.lane(0, 2), 30);
        Check.equal("T: the length 1", van.lane(1, 2), 1);
    }

    /** "clay, 0 to 9". */
    private static void clay0To9() {
        LibraryVan van = withHalts(2);
        for (int wrong : new int[] {LEAST, -1, 10, MOST}) {
            Check.refusedArgument(van, "T: clay " + wrong, () -> van.addLane(0, 1, 1, wrong));
        }
        van.addLane(0, 1, 1, 0);
        van.addLane(0, 1, 1, 9);
        Check.equal("T: clay 0", van.lane(0, 3), 0);
        Check.equal("T: clay 9", van.lane(1, 3), 9);
        dayWithRain(van, 9);
        Check.equal("T: never muddy with clay 0", van.lane(0, 4), 0);
        Check.equal("T: muddy at once with clay 9", van.lane(1, 4), 20);
    }

    /** "mud, 0 to 20 (0, at first)". */
    private static void mudAtFirst() {
        LibraryVan van = afterRain(9, 9);
        Check.equal("T: the mud of a lane in the rain", van.lane(0, 4), 18);
        van.addLane(0, 1, 10, 4);
        Check.equal("T: a lane that is told then has none", van.lane(1, 4), 0);
        Check.equal("T: and can be used", van.way(0, 1), 10);
    }

    /** "with rain, that of each lane is rain * clay / 4 more (at most 20)". */
    private static void mudAtMost20() {
        Check.equal("T: mud 19", mudAfter(9, 9, 1), 19);
        Check.equal("T: 1 more than 19", mudAfter(9, 9, 1, 1), 20);
        Check.equal("T: 2 more than 19", mudAfter(9, 9, 1, 2), 20);
        Check.equal("T: 2 more than 18", mudAfter(9, 9, 2), 20);
        Check.equal("T: 3 more than 18", mudAfter(9, 9, 3), 20);
        Check.equal("T: more than 20", mudAfter(9, 9, 9, 9), 20);
        Check.equal("T: it dries from 20 on", mudAfter(9, 9, 9, 9, 0), 18);
    }

    /** "without rain 2 less (at least 0)". */
    private static void mudAtLeast0() {
        Check.equal("T: 2 less than 3", mudAfter(3, 0), 1);
        Check.equal("T: 2 less than 2", mudAfter(2, 0), 0);
        Check.equal("T: 2 less than 1", mudAfter(1, 0), 0);
        Check.equal("T: 2 less than 0", mudAfter(0), 0);
        Check.equal("T: it grows from 0 on", mudAfter(1, 0, 0, 0, 3), 3);
    }

    /** "rain * clay / 4", and "/ is cut towards 0". */
    private static void rainAndClayDividedBy4() {
        for (int clay = 0; clay <= 9; clay++) {
            for (int rain = 1; rain <= 9; rain++) {
                LibraryVan van = withHalts(2);
                van.addLane(0, 1, 1, clay);
                dayWithRain(van, rain);
                int due = rain * clay < 80 ? (rain * clay - rain * clay % 4) / 4 : 20;
                Check.equal("T: rain " + rain + " on clay " + clay, van.lane(0, 4), due);
            }
        }
        LibraryVan van = withHalts(2);
        van.addLane(0, 1, 1, 3);
        dayWithRain(van, 4);
        dayWithRain(van, 1);
        Check.equal("T: 1 * 3 / 4 is none more, and none less", van.lane(0, 4), 3);
        LibraryVan stone = withHalts(2);
        stone.addLane(0, 1, 1, 0);
        dayWithRain(stone, 9);
        Check.equal("T: 9 * 0 / 4 is none more", stone.lane(0, 4), 0);
    }

    /** "The van can use a lane as long as its mud is at most 12". */
    private static void usableToMud12() {
        LibraryVan van = afterRain(9, 3);
        Check.equal("T: mud 12", van.lane(0, 4), 12);
        Check.equal("T: minutes with mud 12", van.lane(0, 5), 16);
        Check.equal("T: way with mud 12", van.way(0, 1), 16);
        Check.equal("17: none that cannot be used", van.count(8), 0);
        dayWithRain(van, 1);
        Check.equal("T: mud 13", van.lane(0, 4), 13);
        Check.equal("T: no minutes with mud 13", van.lane(0, 5), -1);
        Check.equal("T: no way with mud 13", van.way(0, 1), -1);
        Check.equal("T: nor back", van.way(1, 0), -1);
        Check.equal("17: one that cannot be used", van.count(8), 1);
        dayWithRain(van, 1);
        Check.equal("T: no minutes with mud 14", van.lane(0, 5), -1);
        dayWithRain(van, 0);
        Check.equal("T: usable again with mud 12", van.lane(0, 5), 16);
        Check.equal("T: with a way again", van.way(1, 0), 16);
        Check.equal("T: from 13 to 11", afterRain(9, 4, 0).lane(0, 5), 15);
        Check.equal("T: 20, 18, 16, 14", afterRain(9, 9, 9, 0, 0, 0).lane(0, 5), -1);
        Check.equal("T: 20, 18, 16, 14, 12", afterRain(9, 9, 9, 0, 0, 0, 0).lane(0, 5), 16);
    }

    /** "it takes its length and mud / 2 minutes then". */
    private static void mudDividedBy2() {
        for (int mud = 0; mud <= 9; mud++) {
            LibraryVan van = afterRain(mud);
            Check.equal("T: minutes with mud " + mud, van.lane(0, 5), 10 + (mud - mud % 2) / 2);
            Check.equal("T: way with mud " + mud, van.way(0, 1), 10 + (mud - mud % 2) / 2);
        }
        Check.equal("T: mud 11", afterRain(9, 2).lane(0, 5), 15);
        Check.equal("T: mud 10", afterRain(9, 1).way(0, 1), 15);
    }

    /** "of two halts the time is that of the quickest way"; "-1 without a way". */
    private static void quickestWay() {
        LibraryVan van = withHalts(4);
        Check.equal("8: without lanes", van.way(0, 3), -1);
        van.addLane(0, 1, 10, 0);
        van.addLane(3, 2, 10, 0);
        Check.equal("8: a lane is missing", van.way(0, 3), -1);
        Check.equal("8: back too", van.way(3, 0), -1);
        Check.equal("8: one lane", van.way(2, 3), 10);
        van.addLane(1, 2, 8, 0);
        Check.equal("8: three lanes", van.way(0, 3), 28);
        van.addLane(0, 3, 29, 0);
        Check.equal("8: a lane that takes a minute more", van.way(0, 3), 28);
        van.addLane(0, 3, 28, 0);
        Check.equal("8: one that takes as long", van.way(3, 0), 28);
        van.addLane(0, 3, 27, 0);
        Check.equal("8: one that takes a minute less", van.way(3, 0), 27);
        quickestWayThroughEachHalt();
    }

    /** Each halt, home too, can be in the middle of a way. */
    private static void quickestWayThroughEachHalt() {
        for (int middle = 0; middle < 8; middle++) {
            LibraryVan van = withHalts(8);
            for (int halt = 0; halt < 8; halt++) {
                if (halt != middle) {
                    van.addLane(middle, halt, 1 + halt, 0);
                }
            }
            for (int from = 0; from < 8; from++) {
                for (int to = 0; to < 8; to++) {
                    int there = from == middle ? 0 : 1 + from;
                    int on = to == middle ? 0 : 1 + to;
                    int due = from == to ? 0 : there + on;
                    Check.equal("8: through " + middle, van.way(from, to), due);
                }
            }
        }
    }

    /** "(0 for the same halt)". */
    private static void timeToTheSameHalt() {
        LibraryVan van = afterRain(9, 9);
        Check.equal("8: home to home", van.way(0, 0), 0);
        Check.equal("8: behind an unusable lane", van.way(1, 1), 0);
        LibraryVan full = row(1, 1, 1, 1, 1, 1, 1);
        for (int halt = 0; halt < 8; halt++) {
            Check.equal("8: the same halt", full.way(halt, halt), 0);
        }
        Check.refusedIndex(full, "8: the same, but none", () -> full.way(8, 8));
        Check.refusedIndex(full, "8: the same, below 0", () -> full.way(-1, -1));
        Check.refusedIndex(full, "8: the least from", () -> full.way(LEAST, 0));
        Check.refusedIndex(full, "8: the most to", () -> full.way(0, MOST));
    }

    /** The longest way that there can be: seven lanes of length 30 with mud 12. */
    private static void longestWay() {
        LibraryVan van = row(30, 30, 30, 30, 30, 30, 30);
        dayWithRain(van, 9);
        dayWithRain(van, 3);
        Check.equal("8: the longest way", van.way(0, 7), 7 * 36);
        Check.equal("8: and back", van.way(7, 0), 7 * 36);
        dayWithRain(van, 1);
        Check.equal("8: a bit of mud more", van.way(0, 7), -1);
        Check.equal("8: on each lane", van.way(6, 7), -1);
        Check.equal("17: no lane can be used", van.count(8), 7);
    }

    /** "A table tells the rain of each of 7 days, 0 to 9 (0, at first)". */
    private static void rain0To9() {
        LibraryVan van = withHalts(2);
        van.addLane(0, 1, 1, 4);
        for (int day = 0; day < 7; day++) {
            Check.equal("4: none at first", van.setRain(day, 9), 0);
            Check.equal("4: 9 before", van.setRain(day, 0), 9);
            Check.equal("4: 0 before", van.setRain(day, 1), 0);
            Check.equal("4: 1 before", van.setRain(day, day), 1);
        }
        for (int wrong : new int[] {LEAST, -1, 7, 8, MOST}) {
            Check.refusedIndex(van, "4: day " + wrong, () -> van.setRain(wrong, 0));
            Check.refusedIndex(van, "4: day " + wrong + " and rain", () -> van.setRain(wrong, 10));
        }
        for (int wrong : new int[] {LEAST, -1, 10, MOST}) {
            Check.refusedArgument(van, "4: rain " + wrong, () -> van.setRain(0, wrong));
            Check.refusedArgument(van, "4: rain " + wrong + ", day 6", () -> van.setRain(6, wrong));
        }
        for (int day = 0; day < 7; day++) {
            Check.equal("4: it stays", van.setRain(day, 9), day);
        }
    }

    /** "on the day d it is that with the number d by the remainder of 7". */
    private static void remainderOf7() {
        for (int rainy = 0; rainy < 7; rainy++) {
            LibraryVan van = withHalts(2);
            van.addLane(0, 1, 1, 4);
            van.setRain(rainy, 2);
            for (int day = 0; day < 22; day++) {
                van.pass(1);
                // A day later it is dry again, so that mud tells that it rained on this day.
                Check.equal("T: mud of the day " + day, van.lane(0, 4), day % 7 == rainy ? 2 : 0);
            }
        }
    }

    private static void remainderOfLateDays() {
        LibraryVan van = withHalts(2);
        van.addLane(0, 1, 1, 4);
        van.setRain(5, 2);
        for (int i = 0; i < 490; i++) {
            van.pass(60);
        }
        // 29400 is 4200 times 7.
        Check.equal("T: a late day", van.count(0), 29400);
        van.pass(5);
        Check.equal("T: ahead of the rain", van.lane(0, 4), 0);
        van.pass(1);
        Check.equal("T: behind the rain of the day 29405", van.lane(0, 4), 2);
        van.pass(1);
        Check.equal("T: dry on the day 29406", van.lane(0, 4), 0);
    }

    /** "It is a row of at most 8 halts (empty, at first)". */
    private static void roundEmptyAtFirst() {
        LibraryVan van = row(1, 1);
        van.addBook(0);
        van.addReader(0, 0, 1);
        Check.equal("T: no loans on an empty round", van.pass(60), 0);
        for (int halt = 0; halt < 3; halt++) {
            Check.equal("T: not in the round", van.halt(halt, 2), 0);
            Check.equal("T: not served", van.halt(halt, 3), 0);
            Check.equal("T: not missed", van.halt(halt, 4), 0);
        }
        Check.equal("17: no minutes on an empty round", van.count(9), 0);
        Check.equal("5: it is told as empty", van.setRound(0, 10), 0);
        Check.equal("18: none is missed", van.foresee(60, 1), 0);
    }

    /** "the halts, as a decimal number of at most 8 digits". */
    private static void roundAtMost8() {
        LibraryVan van = withHalts(8);
        Check.equal("5: 8 digits", van.setRound(11111111, 300), 8);
        van.pass(1);
        Check.equal("T: served eight times in a day", van.halt(0, 3), 8);
        Check.equal("T: for 40 minutes", van.count(9), 40);
        Check.equal("5: 8 of the last", van.setRound(88888888, 300), 8);
        van.pass(1);
        Check.equal("T: missed eight times in a day", van.halt(7, 4), 8);
        for (int wrong : new int[] {100_000_000, 111_111_111, 123_456_781, 1_111_111_111, MOST}) {
            Check.refusedArgument(van, "5: more than 8 digits", () -> van.setRound(wrong, 300));
        }
        Check.equal("5: it stays", van.halt(7, 2), 8);
    }

    /** "if halts is less than 0"; "0 for none"; "(but the number 0)". */
    private static void numberOfTheRound() {
        LibraryVan van = withHalts(1);
        Check.equal("5: one digit", van.setRound(1, 300), 1);
        Check.refusedArgument(van, "5: -1", () -> van.setRound(-1, 300));
        Check.refusedArgument(van, "5: -11", () -> van.setRound(-11, 300));
        Check.refusedArgument(van, "5: the least", () -> van.setRound(LEAST, 300));
        Check.equal("5: the halt stays", van.halt(0, 2), 1);
        Check.equal("5: 0 is none", van.setRound(0, 300), 0);
        Check.equal("5: and empties the round", van.halt(0, 2), 0);
        van.pass(1);
        Check.equal("5: none served then", van.halt(0, 3), 0);
        LibraryVan none = new LibraryVan();
        Check.equal("5: 0 without halts", none.setRound(0, 10), 0);
        Check.refusedArgument(none, "5: 1 without halts", () -> none.setRound(1, 10));
    }

    /** "or one that is 0 or stands for no halt", in each of the places. */
    private static void digitsOfTheRound() {
        LibraryVan van = withHalts(4);
        van.setRound(4321, 300);
        long digest = van.digest();
        for (int place = 1; place <= 10_000_000; place *= 10) {
            int number = 33_333_333;
            int zero = number - 3 * place;
            int fourth = number + place;
            int fifth = number + 2 * place;
            int ninth = number + 6 * place;
            if (place < 10_000_000) {
                Check.refusedArgument(van, "5: " + zero, () -> van.setRound(zero, 300));
            } else {
                Check.equal("5: no 0 ahead of 7 digits", van.setRound(zero, 300), 7);
            }
            Check.equal("5: " + fourth, van.setRound(fourth, 300), 8);
            Check.equal("5: the halt 3 once", van.halt(3, 2), 1);
            Check.refusedArgument(van, "5: " + fifth, () -> van.setRound(fifth, 300));
            Check.refusedArgument(van, "5: " + ninth, () -> van.setRound(ninth, 300));
        }
        van.setRound(4321, 300);
        Check.equal("5: as at first", van.digest(), digest);
        int[] due = new int[10 + 7 + 4 + 4 * 5];
        due[1] = 4;
        for (int i = 0; i < 4; i++) {
            due[17 + i] = 3 - i;
            due[21 + 5 * i + 2] = 1;
        }
        Check.equal("5: the first one is the highest digit", digest, Check.digestOf(due));
    }

    /** "the van has 10 to 300 minutes for it". */
    private static void minutes10To300() {
        // To the halt 5 it is 145 minutes: 5 at home, 145, 5 there and 145 are 300.
        LibraryVan van = row(30, 30, 30, 30, 25);
        Check.equal("5: 10 minutes", van.setRound(111, 10), 3);
        van.pass(1);
        Check.equal("T: twice 5 minutes in 10", van.halt(0, 3), 2);
        Check.equal("T: not three times", van.halt(0, 4), 1);
        for (int wrong : new int[] {LEAST, -1, 0, 9, 301, MOST}) {
            Check.refusedArgument(van, "5: minutes " + wrong, () -> van.setRound(16, wrong));
            Check.refusedArgument(van, "5: none, minutes " + wrong, () -> van.setRound(0, wrong));
        }
        van.pass(1);
        Check.equal("5: 10 minutes stay", van.halt(0, 4), 2);
        van.setRound(16, 299);
        van.pass(1);
        Check.equal("T: missed in 299", van.halt(5, 4), 1);
        Check.equal("5: 300 minutes", van.setRound(16, 300), 2);
        van.pass(1);
        Check.equal("T: served in 300", van.halt(5, 3), 1);
        Check.equal("T: all 300 are used", van.count(9), 300);
    }

    /** "(120, at first)": of a new van only advise can tell them. */
    private static void minutes120AtFirst() {
        int[] lengths = {27, 28};
        int[] due = {2, -1};
        for (int i = 0; i < 2; i++) {
            LibraryVan van = row(30, lengths[i]);
            van.addBook(0);
            van.addReader(2, 0, 1);
            // There and home: 57, 5 and 57 are 119, but 58, 5 and 58 are 121.
            Check.equal("T: a halt " + (30 + lengths[i]) + " away", van.advise(1), due[i]);
            Check.equal("T: the first round is empty", van.foresee(60, 0), 0);
        }
    }

    /** "the van begins at home, with no minute used". */
    private static void beginsAtHomeEachDay() {
        LibraryVan van = row(10);
        van.setRound(2, 25);
        for (int day = 1; day <= 9; day++) {
            van.pass(1);
            Check.equal("T: served each day", van.halt(1, 3), day);
            Check.equal("T: 25 minutes each day", van.count(9), 25);
        }
        van.pass(60);
        Check.equal("T: in one call too", van.halt(1, 3), 69);
    }

    /** "and the time home are, all added to the minutes used, not more than it has". */
    private static void justEnoughMinutes() {
        int[][] rounds = {{2, 25}, {22, 30}, {222, 35}, {21, 30}, {3, 49}, {23, 54}, {32, 54},
            {33, 54}, {123, 59}, {313, 5 + 22 + 22 + 5 + 22 + 5 + 22}};
        for (int[] round : rounds) {
            LibraryVan van = row(10, 12);
            van.setRound(round[0], round[1]);
            van.pass(1);
            Check.equal("T: round " + round[0] + ", just enough", missed(van), 0);
            Check.equal("17: round " + round[0] + ", all used", van.count(9), round[1]);
            van.setRound(round[0], round[1] - 1);
            van.pass(1);
            Check.equal("T: round " + round[0] + ", one too few", missed(van), 1);
        }
        LibraryVan far = row(10, 12);
        far.setRound(3, 48);
        far.pass(1);
        Check.equal("17: one too few, none used", far.count(9), 0);
        far.setRound(23, 53);
        far.pass(1);
        Check.equal("17: one too few, home from the first", far.count(9), 25);
    }

    /** "if there is a way to it from where it is, and one from it to its home". */
    private static void noWayToTheHalt() {
        LibraryVan van = withHalts(4);
        van.addLane(0, 1, 1, 0);
        van.addLane(2, 3, 1, 0);
        van.setRound(3, 300);
        van.pass(1);
        Check.equal("T: no way from home", van.halt(2, 4), 1);
        Check.equal("17: no minutes", van.count(9), 0);
        van.setRound(23424, 300);
        van.pass(1);
        Check.equal("T: no way to 2", van.halt(2, 4), 2);
        Check.equal("T: nor to 3", van.halt(3, 4), 2);
        Check.equal("T: nor are they served", van.halt(2, 3) + van.halt(3, 3), 0);
        Check.equal("T: twice to 1", van.halt(1, 3), 2);
        Check.equal("17: the minutes of 1 alone", van.count(9), 1 + 5 + 0 + 5 + 1);
        van.addLane(1, 2, 1, 0);
        van.pass(1);
        Check.equal("T: none missed with a lane more", missed(van), 4);
    }

    /** "(all by the mud as it is now)": that of the day, behind its rain. */
    private static void mudAsItIsNow() {
        LibraryVan van = afterRain(9, 3);
        van.setRound(2, 300);
        dayWithRain(van, 1);
        Check.equal("T: from mud 12 to 13: missed", van.halt(1, 4), 1);
        dayWithRain(van, 0);
        Check.equal("T: from mud 13 to 11: served", van.halt(1, 3), 1);
        Check.equal("17: with mud 11", van.count(9), 15 + 5 + 15);
        van.setRound(2, 37);
        dayWithRain(van, 1);
        Check.equal("T: mud 12: just enough", van.halt(1, 3), 2);
        van.setRound(2, 36);
        dayWithRain(van, 0);
        Check.equal("T: mud 10: enough", van.halt(1, 3), 3);
        dayWithRain(van, 2);
        Check.equal("T: mud 12: one too few", van.halt(1, 4), 2);
        dayWithRain(van, 2);
        dayWithRain(van, 0);
        Check.equal("T: from mud 14 to 12: one too few", van.halt(1, 4), 4);
    }

    /** "otherwise the halt is missed, and it stays where it is". */
    private static void missedStaysWhereItIs() {
        LibraryVan van = withHalts(5);
        van.addLane(0, 1, 10, 0);
        van.addLane(1, 2, 10, 0);
        van.addLane(0, 4, 30, 0);
        van.setRound(243, 50);
        van.pass(1);
        Check.equal("T: the halt in between has no way", van.halt(3, 4), 1);
        Check.equal("T: from 1 on to 2", van.halt(2, 3), 1);
        Check.equal("17: 10, 5, 10, 5, home 20", van.count(9), 50);
        van.setRound(253, 50);
        van.pass(1);
        Check.equal("T: the halt in between is too far", van.halt(4, 4), 1);
        Check.equal("T: from 1 on to 2 again", van.halt(2, 3), 2);
        Check.equal("17: 10, 5, 10, 5, home 20 again", van.count(9), 50);
        van.setRound(423, 49);
        van.pass(1);
        Check.equal("T: a minute too few for the last", van.halt(2, 4), 1);
        Check.equal("17: home from 1", van.count(9), 25);
    }

    /** "One that stands in the round twice is served or missed twice." */
    private static void twiceInTheRound() {
        LibraryVan van = row(10, 1);
        van.setRound(22, 24);
        van.pass(1);
        Check.equal("T: missed twice", van.halt(1, 4), 2);
        Check.equal("T: not served", van.halt(1, 3), 0);
        van.setRound(22, 30);
        van.pass(1);
        Check.equal("T: served twice", van.halt(1, 3), 2);
        Check.equal("T: not missed", van.halt(1, 4), 2);
        van.setRound(22, 29);
        van.pass(1);
        Check.equal("T: served once", van.halt(1, 3), 3);
        Check.equal("T: missed once", van.halt(1, 4), 3);
        van.setRound(232, 300);
        van.pass(1);
        Check.equal("T: served twice with one in between", van.halt(1, 3), 5);
        Check.equal("17: on and back", van.count(9), 10 + 5 + 1 + 5 + 1 + 5 + 10);
        Check.equal("6: it is there twice", van.halt(1, 2), 2);
    }

    /** Promise 6: the least and the most of what halt tells. */
    private static void answersOfHalts() {
        LibraryVan van = withHalts(2);
        for (int what = 0; what <= 4; what++) {
            Check.equal("6: a new halt tells 0", van.halt(1, what), 0);
        }
        for (int i = 0; i < 16; i++) {
            van.addLane(i % 2, 1 - i % 2, 30, 0);
        }
        for (int i = 0; i < 10; i++) {
            van.addReader(1, 0, 1);
        }
        van.setRound(22222222, 64);
        van.pass(60);
        int[] due = {10, 16, 8, 0, 480};
        for (int what = 0; what <= 4; what++) {
            Check.equal("6: a full halt, " + what, van.halt(1, what), due[what]);
        }
        van.setRound(22222222, 100);
        van.pass(60);
        Check.equal("6: served eight times a day", van.halt(1, 3), 480);
        Check.equal("6: none missed more", van.halt(1, 4), 480);
        for (int wrong : new int[] {LEAST, -1, 5, MOST}) {
            Check.refusedIndex(van, "6: what " + wrong, () -> van.halt(0, wrong));
        }
        for (int wrong : new int[] {LEAST, -1, 2, 7, 8, MOST}) {
            Check.refusedIndex(van, "6: halt " + wrong, () -> van.halt(wrong, 4));
        }
    }

    /** Promise 7: the least and the most of what lane tells. */
    private static void answersOfLanes() {
        LibraryVan van = withHalts(8);
        Check.refusedIndex(van, "7: no lane yet", () -> van.lane(0, 0));
        van.addLane(0, 7, 1, 0);
        van.addLane(7, 6, 30, 9);
        List<int[]> due = List.of(new int[] {0, 7, 1, 0, 0, 1}, new int[] {7, 6, 30, 9, 20, -1});
        dayWithRain(van, 9);
        for (int lane = 0; lane < 2; lane++) {
            for (int what = 0; what <= 5; what++) {
                Check.equal("7: lane(" + lane + ", " + what + ")",
                        van.lane(lane, what), due.get(lane)[what]);
            }
        }
        for (int wrong : new int[] {LEAST, -1, 6, MOST}) {
            Check.refusedIndex(van, "7: what " + wrong, () -> van.lane(1, wrong));
        }
        for (int wrong : new int[] {LEAST, -1, 2, 15, 16, MOST}) {
            Check.refusedIndex(van, "7: lane " + wrong, () -> van.lane(wrong, 5));
        }
    }
}
