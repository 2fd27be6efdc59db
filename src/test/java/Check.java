import java.math.BigInteger;
import java.util.ArrayList;
import java.util.List;

/** What the tests share: counting what is wrong, and telling it. */
final class Check {
    private static int wrong = 0;
    private static int checked = 0;

    private Check() {
    }

    static void equal(String what, long got, long want) {
        checked++;
        if (got != want) {
            wrong++;
            System.out.println(what + ": got " + got + ", due is " + want);
        }
    }

    static void equal(String what, double got, double want) {
        checked++;
        if (got != want) {
            wrong++;
            System.out.println(what + ": got " + got + ", due is " + want);
        }
    }

    static void isTrue(String what, boolean holds) {
        equal(what, holds ? 1 : 0, 1);
    }

    /** The call must throw exactly this, and leave the van as it was. */
    static void refused(LibraryVan van, String what, Class<?> due, Runnable call) {
        List<Long> before = picture(van);
        Class<?> thrown = null;
        try {
            call.run();
        } catch (RuntimeException e) {
            thrown = e.getClass();
            isTrue(what + " is refused by a throw of the class itself", isThrownByTheVan(e));
        }
        isTrue(what + " throws " + due.getSimpleName() + ", not " + thrown, thrown == due);
        isTrue(what + " changes nothing", before.equals(picture(van)));
    }

    /** What the machine or the library throws begins elsewhere, or bears no trace at all. */
    static boolean isThrownByTheVan(RuntimeException e) {
        StackTraceElement[] trace = e.getStackTrace();
        return trace.length > 0 && trace[0].getClassName().startsWith("LibraryVan");
    }

    static void refusedIndex(LibraryVan van, String what, Runnable call) {
        refused(van, what, IndexOutOfBoundsException.class, call);
    }

    static void refusedArgument(LibraryVan van, String what, Runnable call) {
        refused(van, what, IllegalArgumentException.class, call);
    }

    static void refusedState(LibraryVan van, String what, Runnable call) {
        refused(van, what, IllegalStateException.class, call);
    }

    /** All that can be asked of a van without changing it. */
    static List<Long> picture(LibraryVan van) {
        List<Long> answers = new ArrayList<>();
        answers.add(van.digest());
        answers.add(Double.doubleToLongBits(van.daily()));
        int halts = van.count(1);
        for (int from = 0; from < halts; from++) {
            for (int to = 0; to < halts; to++) {
                answers.add((long) van.way(from, to));
            }
        }
        for (int reader = 0; reader < van.count(4); reader++) {
            for (int book = 0; book < van.count(3); book++) {
                answers.add((long) van.gets(reader, book));
            }
        }
        for (int days = 1; days <= 60; days += 59) {
            for (int what = 0; what < 4; what++) {
                answers.add((long) van.foresee(days, what));
            }
        }
        int inRound = 0;
        for (int halt = 0; halt < halts; halt++) {
            inRound += van.halt(halt, 2);
        }
        if (inRound < 8) {
            answers.add((long) van.advise(30));
        }
        return answers;
    }

    /** The checksum of these numbers, by whole numbers without a bound. */
    static long digestOf(int... numbers) {
        BigInteger d = BigInteger.valueOf(607);
        for (int x : numbers) {
            d = d.multiply(BigInteger.valueOf(31)).add(BigInteger.valueOf(x));
        }
        return d.longValue();
    }

    static void end() {
        System.out.println(checked + " checks, " + wrong + " wrong");
        if (wrong != 0) {
            System.exit(1);
        }
    }
}
