import java.util.Random;
import java.util.function.LongSupplier;

/** Runs of calls by a fixed seed, answered by the van and by the plain van: all must be alike. */
public final class RandomRunsTest {
    private static final int RUNS = 300;
    private static final int CALLS = 250;

    private final Random random;
    private final LibraryVan van = new LibraryVan();
    private final PlainVan plain = new PlainVan();
    private final int run;

    private RandomRunsTest(int run) {
        this.run = run;
        random = new Random(607 + run);
    }

    public static void main(String[] args) {
        for (int run = 0; run < RUNS; run++) {
            RandomRunsTest test = new RandomRunsTest(run);
            test.setUp(run % 3);
            for (int call = 0; call < CALLS; call++) {
                test.callOne();
                test.alike("digest", test.van::digest, test.plain::digest);
            }
        }
        Check.end();
    }

    private int upTo(int most) {
        return random.nextInt(most + 1);
    }

    /** A number of the range, and now and then one that is just outside, or far from it. */
    private int about(int least, int most) {
        int dice = random.nextInt(40);
        if (dice == 0) {
            return least - 1;
        }
        if (dice == 1) {
            return most + 1;
        }
        if (dice == 2) {
            return random.nextInt();
        }
        return most < least ? least : least + upTo(most - least);
    }

    private int someHalt() {
        return about(0, van.count(1) - 1);
    }

    private int someBook() {
        return about(0, van.count(3) - 1);
    }

    private int someReader() {
        return about(0, van.count(4) - 1);
    }

    /** The answer, or a number for the exception, which of the van must be its own. */
    private static long answer(LongSupplier call, boolean ofVan) {
        try {
            return call.getAsLong();
        } catch (RuntimeException e) {
            if (ofVan && !Check.isThrownByTheVan(e)) {
                return Long.MIN_VALUE;
            }
            return e instanceof IndexOutOfBoundsException ? Long.MIN_VALUE + 1
                    : e instanceof IllegalArgumentException ? Long.MIN_VALUE + 2
                    : e instanceof IllegalStateException ? Long.MIN_VALUE + 3
                    : Long.MIN_VALUE + 4;
        }
    }

    private void alike(String call, LongSupplier one, LongSupplier other) {
        Check.equal("run " + run + ", " + call, answer(one, true), answer(other, false));
    }

    private void setUp(int much) {
        for (int i = upTo(3) + 2 * much; i >= 0; i--) {
            addHalt();
        }
        for (int i = upTo(5) + 5 * much; i >= 0; i--) {
            addLane();
        }
        for (int i = upTo(8) + 7 * much; i >= 0; i--) {
            addBook();
        }
        for (int i = upTo(3) + 3 * much; i >= 0; i--) {
            addReader();
        }
        setRound();
    }

    private void callOne() {
        int dice = random.nextInt(100);
        if (dice < 5) {
            addSomething();
        } else if (dice < 13) {
            setRain();
        } else if (dice < 19) {
            setRound();
        } else if (dice < 37) {
            reserve();
        } else if (dice < 42) {
            cancel();
        } else if (dice < 62) {
            pass();
        } else if (dice < 66) {
            pay();
        } else if (dice < 78) {
            lookAhead();
        } else {
            ask();
        }
    }

    private void addSomething() {
        switch (upTo(3)) {
            case 0:
                addHalt();
                break;
            case 1:
                addLane();
                break;
            case 2:
                addBook();
                break;
            default:
                addReader();
        }
    }

    private void addHalt() {
        alike("addHalt()", van::addHalt, plain::addHalt);
    }

    private void addLane() {
        int a = someHalt();
        int b = someHalt();
        int length = about(1, random.nextBoolean() ? 9 : 30);
        int clay = about(0, random.nextBoolean() ? 3 : 9);
        alike("addLane(" + a + ", " + b + ", " + length + ", " + clay + ")",
                () -> van.addLane(a, b, length, clay), () -> plain.addLane(a, b, length, clay));
    }

    private void addBook() {
        int shelf = about(0, random.nextBoolean() ? 1 : 5);
        alike("addBook(" + shelf + ")", () -> van.addBook(shelf), () -> plain.addBook(shelf));
    }

    private void addReader() {
        int halt = someHalt();
        int shelf = about(0, random.nextBoolean() ? 1 : 5);
        int keeps = about(1, random.nextBoolean() ? 5 : 30);
        alike("addReader(" + halt + ", " + shelf + ", " + keeps + ")",
                () -> van.addReader(halt, shelf, keeps), () -> plain.addReader(halt, shelf, keeps));
    }

    private void setRain() {
        int day = about(0, 6);
        int rain = random.nextInt(3) > 0 ? about(0, 1) : about(0, 9);
        alike("setRain(" + day + ", " + rain + ")",
                () -> van.setRain(day, rain), () -> plain.setRain(day, rain));
    }

    private void setRound() {
        int number = 0;
        for (int i = upTo(8); i > 0; i--) {
            number = number * 10 + 1 + (random.nextInt(60) == 0 ? upTo(8) : upTo(van.count(1) - 1));
        }
        int halts = random.nextInt(30) == 0 ? random.nextInt() : number;
        int minutes = about(10, 300);
        alike("setRound(" + halts + ", " + minutes + ")",
                () -> van.setRound(halts, minutes), () -> plain.setRound(halts, minutes));
    }

    private void reserve() {
        int reader = someReader();
        int book = someBook();
        alike("reserve(" + reader + ", " + book + ")",
                () -> van.reserve(reader, book), () -> plain.reserve(reader, book));
    }

    private void cancel() {
        int reader = someReader();
        int book = someBook();
        alike("cancel(" + reader + ", " + book + ")",
                () -> van.cancel(reader, book), () -> plain.cancel(reader, book));
    }

    private void pass() {
        int days = about(1, random.nextInt(20) == 0 ? 60 : 3);
        alike("pass(" + days + ")", () -> van.pass(days), () -> plain.pass(days));
    }

    private void pay() {
        int reader = someReader();
        int pence = about(1, 6);
        alike("pay(" + reader + ", " + pence + ")",
                () -> van.pay(reader, pence), () -> plain.pay(reader, pence));
    }

    private void lookAhead() {
        int days = about(1, 60);
        int what = about(0, 3);
        int reader = someReader();
        int book = someBook();
        int few = about(1, 30);
        switch (upTo(3)) {
            case 0:
                alike("foresee(" + days + ", " + what + ")",
                        () -> van.foresee(days, what), () -> plain.foresee(days, what));
                break;
            case 1:
                alike("gets(" + reader + ", " + book + ")",
                        () -> van.gets(reader, book), () -> plain.gets(reader, book));
                break;
            case 2:
                alike("advise(" + few + ")", () -> van.advise(few), () -> plain.advise(few));
                break;
            default:
                alike("daily()", () -> Double.doubleToLongBits(van.daily()),
                        () -> Double.doubleToLongBits(plain.daily()));
        }
    }

    private void ask() {
        int halt = someHalt();
        int to = someHalt();
        int lane = about(0, van.count(2) - 1);
        int book = someBook();
        int reader = someReader();
        int what = about(0, 9);
        switch (upTo(5)) {
            case 0:
                alike("halt(" + halt + ", " + what + ")",
                        () -> van.halt(halt, what), () -> plain.halt(halt, what));
                break;
            case 1:
                alike("lane(" + lane + ", " + what + ")",
                        () -> van.lane(lane, what), () -> plain.lane(lane, what));
                break;
            case 2:
                alike("way(" + halt + ", " + to + ")",
                        () -> van.way(halt, to), () -> plain.way(halt, to));
                break;
            case 3:
                alike("book(" + book + ", " + what + ")",
                        () -> van.book(book, what), () -> plain.book(book, what));
                break;
            case 4:
                alike("reader(" + reader + ", " + what + ")",
                        () -> van.reader(reader, what), () -> plain.reader(reader, what));
                break;
            default:
                alike("count(" + what + ")", () -> van.count(what), () -> plain.count(what));
        }
    }
}
