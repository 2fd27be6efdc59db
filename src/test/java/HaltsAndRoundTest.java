/** Promises 1 to 8: a new van, halts, lanes, rain, the round, ways. */
public final class HaltsAndRoundTest {
    private HaltsAndRoundTest() {
    }

    public static void main(String[] args) {
        promise1NewObject();
        promise2AddHalt();
        promise3AddLane();
        promise3TheSixteenth();
        promise4SetRain();
        promise4Mud();
        promise4RainOfTheWeek();
        promise5SetRound();
        promise5WrongRounds();
        promise5Minutes();
        promise6Halt();
        promise7Lane();
        promise7UnusableLane();
        promise8Way();
        promise8MuddyWay();
        Check.end();
    }

    static LibraryVan withHalts(int halts) {
        LibraryVan van = new LibraryVan();
        for (int i = 0; i < halts; i++) {
            van.addHalt();
        }
        return van;
    }

    private static void promise1NewObject() {
        LibraryVan van = new LibraryVan();
        long d = 607;
        for (int what = 0; what < 10; what++) {
            Check.equal("1: count(" + what + ") of a new van", van.count(what), 0);
            d *= 31;
        }
        for (int day = 0; day < 7; day++) {
            Check.equal("1: rain at first", van.setRain(day, 0), 0);
            d *= 31;
        }
        Check.equal("1: digest of a new van", van.digest(), d);
        Check.equal("1: daily of a new van", van.daily(), 0.0);
        Check.refusedIndex(van, "1: halt(0, 0)", () -> van.halt(0, 0));
        Check.refusedIndex(van, "1: way(0, 0)", () -> van.way(0, 0));
        Check.refusedIndex(van, "1: lane(0, 0)", () -> van.lane(0, 0));
        Check.refusedIndex(van, "1: book(0, 0)", () -> van.book(0, 0));
        Check.refusedIndex(van, "1: reader(0, 0)", () -> van.reader(0, 0));
        Check.equal("1: advise without halts", van.advise(30), -1);
        Check.equal("1: foresee without halts", van.foresee(60, 0), 0);
        Check.equal("1: pass without halts", van.pass(60), 0);
        Check.equal("1: the day then", van.count(0), 60);
        Check.equal("1: no minutes then", van.count(9), 0);
    }

    private static void promise2AddHalt() {
        LibraryVan van = new LibraryVan();
        for (int i = 0; i < 8; i++) {
            Check.equal("2: addHalt", van.addHalt(), i);
            Check.equal("2: halts", van.count(1), i + 1);
        }
        Check.refusedState(van, "2: a ninth halt", van::addHalt);
        Check.equal("2: still 8", van.count(1), 8);
        Check.equal("2: the last halt can be asked", van.halt(7, 0), 0);
    }

    private static void promise3AddLane() {
        LibraryVan van = withHalts(3);
        Check.equal("3: the first lane", van.addLane(0, 1, 1, 0), 0);
        Check.equal("3: the second lane", van.addLane(2, 1, 30, 9), 1);
        Check.equal("3: another one between the same", van.addLane(1, 0, 5, 5), 2);
        Check.equal("3: lanes", van.count(2), 3);
        Check.equal("3: a as told", van.lane(1, 0), 2);
        Check.equal("3: b as told", van.lane(1, 1), 1);
        Check.refusedIndex(van, "3: a is -1", () -> van.addLane(-1, 0, 1, 0));
        Check.refusedIndex(van, "3: a is 3", () -> van.addLane(3, 0, 1, 0));
        Check.refusedIndex(van, "3: b is -1", () -> van.addLane(0, -1, 1, 0));
        Check.refusedIndex(van, "3: b is 3", () -> van.addLane(0, 3, 1, 0));
        Check.refusedIndex(van, "3: the least b", () -> van.addLane(0, Integer.MIN_VALUE, 1, 0));
        Check.refusedIndex(van, "3: index ahead of argument", () -> van.addLane(3, 3, 0, 10));
        Check.refusedIndex(van, "3: both the same and none", () -> van.addLane(-1, -1, 1, 0));
        Check.refusedArgument(van, "3: both the same", () -> van.addLane(1, 1, 1, 0));
        Check.refusedArgument(van, "3: length 0", () -> van.addLane(0, 1, 0, 0));
        Check.refusedArgument(van, "3: length 31", () -> van.addLane(0, 1, 31, 0));
        Check.refusedArgument(van, "3: clay -1", () -> van.addLane(0, 1, 1, -1));
        Check.refusedArgument(van, "3: clay 10", () -> van.addLane(0, 1, 1, 10));
    }

    private static void promise3TheSixteenth() {
        LibraryVan van = withHalts(2);
        for (int i = 0; i < 16; i++) {
            Check.equal("3: addLane", van.addLane(0, 1, 30 - i, 0), i);
        }
        Check.refusedState(van, "3: a seventeenth lane", () -> van.addLane(0, 1, 1, 0));
        Check.refusedArgument(van, "3: argument ahead of state", () -> van.addLane(0, 1, 31, 0));
        Check.refusedArgument(van, "3: the same ahead of state", () -> van.addLane(0, 0, 1, 0));
        Check.refusedIndex(van, "3: index ahead of state", () -> van.addLane(0, 2, 1, 0));
        Check.equal("3: still 16", van.count(2), 16);
        Check.equal("3: the last lane counts", van.way(1, 0), 15);
    }

    private static void promise4SetRain() {
        LibraryVan van = withHalts(2);
        for (int day = 0; day < 7; day++) {
            Check.equal("4: rain before, at first", van.setRain(day, day + 1), 0);
        }
        for (int day = 0; day < 7; day++) {
            Check.equal("4: rain before", van.setRain(day, 9), day + 1);
        }
        Check.equal("4: rain 0 again", van.setRain(6, 0), 9);
        Check.equal("4: rain before was 0", van.setRain(6, 3), 0);
        Check.refusedIndex(van, "4: day -1", () -> van.setRain(-1, 0));
        Check.refusedIndex(van, "4: day 7", () -> van.setRain(7, 0));
        Check.refusedIndex(van, "4: index ahead of argument", () -> van.setRain(7, 10));
        Check.refusedArgument(van, "4: rain -1", () -> van.setRain(0, -1));
        Check.refusedArgument(van, "4: rain 10", () -> van.setRain(0, 10));
        Check.equal("4: the rain stays", van.setRain(0, 0), 9);
    }

    private static void promise4Mud() {
        LibraryVan van = withHalts(2);
        van.addLane(0, 1, 10, 9);
        van.addLane(0, 1, 10, 3);
        van.addLane(0, 1, 10, 0);
        van.setRain(0, 9);
        van.setRain(1, 1);
        int[][] due = {
            {20, 6, 0}, {20, 6, 0}, {18, 4, 0}, {16, 2, 0}, {14, 0, 0}, {12, 0, 0}, {10, 0, 0}
        };
        for (int day = 0; day < due.length; day++) {
            van.pass(1);
            for (int lane = 0; lane < 3; lane++) {
                Check.equal("4: mud of lane " + lane + " on the day " + day,
                        van.lane(lane, 4), due[day][lane]);
            }
        }
        LibraryVan odd = withHalts(2);
        odd.addLane(0, 1, 10, 5);
        odd.setRain(0, 3);
        odd.pass(1);
        Check.equal("4: 3 * 5 / 4 is cut", odd.lane(0, 4), 3);
        odd.pass(2);
        Check.equal("4: mud is not less than 0", odd.lane(0, 4), 0);
    }

    private static void promise4RainOfTheWeek() {
        LibraryVan van = withHalts(2);
        van.addLane(0, 1, 10, 4);
        for (int day = 0; day < 7; day++) {
            van.setRain(day, day == 5 ? 8 : 0);
        }
        van.pass(5);
        Check.equal("4: ahead of the rainy day", van.lane(0, 4), 0);
        van.pass(1);
        Check.equal("4: behind the rainy day", van.lane(0, 4), 8);
        van.pass(6);
        Check.equal("4: ahead of the next one", van.lane(0, 4), 0);
        van.pass(1);
        Check.equal("4: behind the next one", van.lane(0, 4), 8);
    }

    private static void promise5SetRound() {
        LibraryVan van = withHalts(8);
        Check.equal("5: one halt", van.setRound(8, 10), 1);
        Check.equal("5: it is the last", van.halt(7, 2), 1);
        Check.equal("5: eight halts", van.setRound(12345678, 300), 8);
        for (int halt = 0; halt < 8; halt++) {
            Check.equal("5: each once", van.halt(halt, 2), 1);
        }
        Check.equal("5: the same often", van.setRound(88888888, 120), 8);
        Check.equal("5: eight times", van.halt(7, 2), 8);
        Check.equal("5: the first not any more", van.halt(0, 2), 0);
        Check.equal("5: none", van.setRound(0, 120), 0);
        Check.equal("5: not in it any more", van.halt(7, 2), 0);
        Check.equal("5: advise of an empty round", van.advise(1), -1);
        roundOrder();
    }

    /** The first digit is the first halt: with 20 minutes only the first one is served. */
    private static void roundOrder() {
        LibraryVan van = withHalts(3);
        van.addLane(0, 1, 5, 0);
        van.addLane(0, 2, 5, 0);
        Check.equal("5: two halts", van.setRound(32, 20), 2);
        van.pass(1);
        Check.equal("5: the first digit is served", van.halt(2, 3), 1);
        Check.equal("5: the second digit is missed", van.halt(1, 4), 1);
        Check.equal("5: the other order", van.setRound(23, 20), 2);
        van.pass(1);
        Check.equal("5: now the other is served", van.halt(1, 3), 1);
        Check.equal("5: and this one is missed", van.halt(2, 4), 1);
    }

    private static void promise5WrongRounds() {
        LibraryVan van = withHalts(3);
        van.addLane(0, 1, 5, 0);
        van.setRound(213, 77);
        Check.refusedArgument(van, "5: less than 0", () -> van.setRound(-1, 120));
        Check.refusedArgument(van, "5: the least", () -> van.setRound(Integer.MIN_VALUE, 120));
        Check.refusedArgument(van, "5: nine digits", () -> van.setRound(111111111, 120));
        Check.refusedArgument(van, "5: the least nine digits", () -> van.setRound(100000000, 120));
        Check.refusedArgument(van, "5: the greatest", () -> van.setRound(Integer.MAX_VALUE, 120));
        Check.refusedArgument(van, "5: a 0 at the end", () -> van.setRound(10, 120));
        Check.refusedArgument(van, "5: a 0 inside", () -> van.setRound(101, 120));
        Check.refusedArgument(van, "5: no such halt", () -> van.setRound(4, 120));
        Check.refusedArgument(van, "5: no such halt at first", () -> van.setRound(41111111, 120));
        Check.refusedArgument(van, "5: no such halt at the end", () -> van.setRound(14, 120));
        Check.refusedArgument(van, "5: 9 minutes", () -> van.setRound(1, 9));
        Check.refusedArgument(van, "5: 301 minutes", () -> van.setRound(1, 301));
        Check.refusedArgument(van, "5: 9 minutes for none", () -> van.setRound(0, 9));
        Check.refusedArgument(van, "5: minutes below 0", () -> van.setRound(1, -120));
        Check.equal("5: 10 minutes", van.setRound(1, 10), 1);
        Check.equal("5: 300 minutes", van.setRound(111, 300), 3);
        LibraryVan empty = new LibraryVan();
        Check.refusedArgument(empty, "5: no halts yet", () -> empty.setRound(1, 120));
        Check.equal("5: none without halts", empty.setRound(0, 300), 0);
    }

    /** To the halt 1 and home it is 10 and 10, with 5 there: 25 minutes. */
    private static void promise5Minutes() {
        LibraryVan van = withHalts(2);
        van.addLane(0, 1, 10, 0);
        van.setRound(2, 24);
        van.pass(1);
        Check.equal("5: a minute short", van.halt(1, 4), 1);
        Check.equal("5: none used", van.count(9), 0);
        van.setRound(2, 25);
        van.pass(1);
        Check.equal("5: just enough", van.halt(1, 3), 1);
        Check.equal("5: all used", van.count(9), 25);
        van.setRound(22, 30);
        van.pass(1);
        Check.equal("5: twice at a halt", van.halt(1, 3), 3);
        Check.equal("5: minutes of both", van.count(9), 30);
        van.setRound(22, 29);
        van.pass(1);
        Check.equal("5: only the first", van.halt(1, 3), 4);
        Check.equal("5: the second is missed", van.halt(1, 4), 2);
        Check.equal("5: minutes of one", van.count(9), 25);
        van.setRound(212, 300);
        van.pass(1);
        Check.equal("5: there, home, there, home", van.count(9), 10 + 5 + 10 + 5 + 10 + 5 + 10);
        van.setRound(1, 10);
        van.pass(1);
        Check.equal("5: at home it takes 5", van.count(9), 5);
    }

    private static void promise6Halt() {
        LibraryVan van = withHalts(3);
        van.addLane(0, 1, 10, 0);
        van.addLane(1, 0, 20, 0);
        van.addLane(1, 2, 30, 0);
        van.addReader(1, 0, 1);
        van.addReader(1, 5, 30);
        van.addReader(0, 0, 1);
        van.setRound(232, 60);
        van.pass(3);
        int[][] due = {{1, 2, 0, 0, 0}, {2, 3, 2, 6, 0}, {0, 1, 1, 0, 3}};
        for (int halt = 0; halt < 3; halt++) {
            for (int what = 0; what < 5; what++) {
                Check.equal("6: halt(" + halt + ", " + what + ")",
                        van.halt(halt, what), due[halt][what]);
            }
        }
        Check.refusedIndex(van, "6: halt -1", () -> van.halt(-1, 0));
        Check.refusedIndex(van, "6: halt 3", () -> van.halt(3, 0));
        Check.refusedIndex(van, "6: what -1", () -> van.halt(0, -1));
        Check.refusedIndex(van, "6: what 5", () -> van.halt(0, 5));
        van.setRound(0, 60);
        Check.equal("6: served stays", van.halt(1, 3), 6);
        Check.equal("6: missed stays", van.halt(2, 4), 3);
        unreachableHalt();
    }

    private static void unreachableHalt() {
        LibraryVan van = withHalts(3);
        van.addLane(1, 2, 1, 0);
        van.setRound(2131, 300);
        van.pass(2);
        Check.equal("6: no way to 1", van.halt(1, 4), 2);
        Check.equal("6: no way to 2", van.halt(2, 4), 2);
        Check.equal("6: home is served", van.halt(0, 3), 4);
        Check.equal("6: it stays where it is", van.count(9), 10);
    }

    private static void promise7Lane() {
        LibraryVan van = withHalts(4);
        van.addLane(3, 1, 17, 8);
        van.addLane(0, 2, 30, 0);
        van.setRain(0, 3);
        van.pass(1);
        int[][] due = {{3, 1, 17, 8, 6, 20}, {0, 2, 30, 0, 0, 30}};
        for (int lane = 0; lane < 2; lane++) {
            for (int what = 0; what < 6; what++) {
                Check.equal("7: lane(" + lane + ", " + what + ")",
                        van.lane(lane, what), due[lane][what]);
            }
        }
        Check.refusedIndex(van, "7: lane -1", () -> van.lane(-1, 0));
        Check.refusedIndex(van, "7: lane 2", () -> van.lane(2, 0));
        Check.refusedIndex(van, "7: what -1", () -> van.lane(0, -1));
        Check.refusedIndex(van, "7: what 6", () -> van.lane(0, 6));
    }

    private static void promise7UnusableLane() {
        LibraryVan van = withHalts(2);
        van.addLane(0, 1, 10, 4);
        van.addLane(0, 1, 10, 1);
        van.setRain(0, 9);
        van.setRain(1, 4);
        van.pass(2);
        Check.equal("7: mud 13", van.lane(0, 4), 13);
        Check.equal("7: not usable", van.lane(0, 5), -1);
        Check.equal("7: mud 3", van.lane(1, 4), 3);
        Check.equal("7: 3 / 2 is cut", van.lane(1, 5), 11);
        Check.equal("7: counted as not usable", van.count(8), 1);
        LibraryVan edge = withHalts(2);
        edge.addLane(0, 1, 10, 8);
        edge.setRain(0, 6);
        edge.pass(1);
        Check.equal("7: mud 12", edge.lane(0, 4), 12);
        Check.equal("7: still usable", edge.lane(0, 5), 16);
        Check.equal("7: none counted", edge.count(8), 0);
        Check.equal("7: the way too", edge.way(0, 1), 16);
    }

    private static void promise8Way() {
        LibraryVan van = withHalts(5);
        van.addLane(0, 1, 30, 0);
        van.addLane(0, 2, 10, 0);
        van.addLane(2, 3, 9, 0);
        van.addLane(1, 3, 10, 0);
        Check.equal("8: round about is quicker", van.way(0, 1), 29);
        Check.equal("8: and back", van.way(1, 0), 29);
        Check.equal("8: two lanes", van.way(0, 3), 19);
        Check.equal("8: the same halt", van.way(3, 3), 0);
        Check.equal("8: the same without lanes", van.way(4, 4), 0);
        Check.equal("8: no way", van.way(0, 4), -1);
        Check.equal("8: no way back", van.way(4, 0), -1);
        van.addLane(1, 0, 28, 0);
        Check.equal("8: a new lane counts at once", van.way(0, 1), 28);
        van.addLane(0, 1, 29, 0);
        Check.equal("8: a slower one does not", van.way(0, 1), 28);
        Check.refusedIndex(van, "8: from -1", () -> van.way(-1, 0));
        Check.refusedIndex(van, "8: from 5", () -> van.way(5, 0));
        Check.refusedIndex(van, "8: to -1", () -> van.way(0, -1));
        Check.refusedIndex(van, "8: to 5", () -> van.way(0, 5));
        Check.refusedIndex(van, "8: neither, both the same", () -> van.way(5, 5));
        longWay();
    }

    private static void longWay() {
        LibraryVan van = withHalts(8);
        int[] order = {0, 7, 1, 6, 2, 5, 3, 4};
        for (int i = 0; i + 1 < 8; i++) {
            van.addLane(order[i + 1], order[i], 30, 0);
        }
        Check.equal("8: seven lanes", van.way(0, 4), 210);
        Check.equal("8: seven lanes back", van.way(4, 0), 210);
        van.setRound(5, 300);
        van.pass(1);
        Check.equal("8: too far for the van", van.halt(4, 4), 1);
    }

    private static void promise8MuddyWay() {
        LibraryVan van = withHalts(3);
        van.addLane(0, 1, 4, 9);
        van.addLane(0, 2, 10, 1);
        van.addLane(2, 1, 10, 0);
        van.setRain(0, 6);
        van.setRain(1, 6);
        Check.equal("8: dry", van.way(0, 1), 4);
        van.setRound(2, 300);
        van.pass(1);
        Check.equal("8: round about in mud", van.way(0, 1), 20);
        Check.equal("8: the van drives by the mud of the day", van.count(9), 45);
        van.pass(1);
        Check.equal("8: mud 2 is a minute more", van.way(0, 1), 21);
        Check.equal("8: minutes then", van.count(9), 47);
    }
}
