import java.lang.reflect.InvocationTargetException;
import java.lang.reflect.Method;
import java.util.ArrayList;
import java.util.Arrays;
import java.util.List;

/**
 * Every call with every edge of each of its arguments, all of them against each other, on vans that
 * are new, small, busy and full: the van must answer as the plain van does, and throw the same.
 */
public final class GridTest {
    private static final int LEAST = Integer.MIN_VALUE;
    private static final int MOST = Integer.MAX_VALUE;

    private static final int[] HALTS = {LEAST, -1, 0, 1, 2, 7, 8, MOST};
    private static final int[] LANES = {LEAST, -1, 0, 1, 3, 15, 16, MOST};
    private static final int[] BOOKS = {LEAST, -1, 0, 1, 5, 6, 23, 24, MOST};
    private static final int[] READERS = {LEAST, -1, 0, 1, 2, 3, 9, 10, MOST};
    private static final int[] WHATS = {LEAST, -1, 0, 1, 2, 3, 4, 5, 6, 7, 8, 9, 10, MOST};
    private static final int[] LENGTHS = {LEAST, -1, 0, 1, 30, 31, MOST};
    private static final int[] UP_TO_9 = {LEAST, -1, 0, 1, 9, 10, MOST};
    private static final int[] UP_TO_5 = {LEAST, -1, 0, 5, 6, MOST};
    private static final int[] RAIN_DAYS = {LEAST, -1, 0, 6, 7, MOST};
    private static final int[] KEEPS = {LEAST, -1, 0, 1, 30, 31, MOST};
    private static final int[] DAYS = {LEAST, -1, 0, 1, 30, 31, 60, 61, MOST};
    private static final int[] PENCE = {LEAST, -1, 0, 1, 2, 15, 16, 17, 32, 33, MOST};
    private static final int[] MINUTES = {LEAST, -1, 0, 9, 10, 300, 301, MOST};
    private static final int[] ROUNDS = {LEAST, -11, -1, 0, 1, 2, 3, 4, 8, 9, 10, 11, 18, 19, 81,
        91, 101, 110, 1111111, 1111110, 1011111, 10000000, 11111110, 10111111, 11111111, 11111119,
        91111111, 22222222, 33333333, 88888888, 88888889, 99999999, 100000000, 111111111, MOST};

    private final String name;
    private final List<int[]> setUp = new ArrayList<>();
    private LibraryVan van;
    private PlainVan plain;

    private static final String[] CALLS = {
        "addHalt", "addLane", "setRain", "setRound", "addBook", "addReader", "reserve", "pass"
    };

    private GridTest(String name) {
        this.name = name;
    }

    public static void main(String[] args) {
        new GridTest("a new van").all();
        small().all();
        busy().all();
        full().all();
        Check.end();
    }

    /** A call of CALLS by its place there, with its arguments. */
    private void told(String call, int... args) {
        int[] row = new int[args.length + 1];
        row[0] = Arrays.asList(CALLS).indexOf(call);
        System.arraycopy(args, 0, row, 1, args.length);
        setUp.add(row);
    }

    private static GridTest small() {
        GridTest grid = new GridTest("a small van");
        grid.told("addHalt");
        grid.told("addHalt");
        grid.told("addLane", 0, 1, 30, 9);
        grid.told("addBook", 0);
        grid.told("addReader", 1, 0, 30);
        grid.told("setRound", 2, 300);
        return grid;
    }

    /** Books are lent, reserved and late, one owes, and one of the lanes cannot be used. */
    private static GridTest busy() {
        GridTest grid = new GridTest("a busy van");
        for (int halt = 0; halt < 3; halt++) {
            grid.told("addHalt");
        }
        grid.told("addLane", 0, 1, 5, 9);
        grid.told("addLane", 1, 0, 30, 1);
        grid.told("addLane", 0, 2, 7, 0);
        for (int book = 0; book < 6; book++) {
            grid.told("addBook", book % 2);
        }
        grid.told("addReader", 0, 0, 30);
        grid.told("addReader", 2, 1, 3);
        grid.told("addReader", 1, 5, 16);
        grid.told("reserve", 2, 0);
        grid.told("setRain", 2, 9);
        grid.told("setRain", 3, 2);
        grid.told("setRound", 1321, 120);
        grid.told("pass", 31);
        grid.told("reserve", 1, 0);
        grid.told("reserve", 0, 1);
        grid.told("pass", 1);
        grid.told("setRound", 2132132, 120);
        grid.told("reserve", 2, 5);
        grid.told("reserve", 1, 5);
        return grid;
    }

    private static GridTest full() {
        GridTest grid = new GridTest("a full van");
        for (int halt = 0; halt < 8; halt++) {
            grid.told("addHalt");
        }
        for (int lane = 0; lane < 16; lane++) {
            grid.told("addLane", lane % 8, (lane + 1 + lane / 8) % 8, 1 + lane, lane % 10);
        }
        for (int book = 0; book < 24; book++) {
            grid.told("addBook", book % 6);
        }
        for (int reader = 0; reader < 10; reader++) {
            grid.told("addReader", reader % 8, reader % 6, 1 + 3 * reader);
        }
        for (int day = 0; day < 7; day++) {
            grid.told("setRain", day, day % 3);
        }
        grid.told("setRound", 32145678, 300);
        grid.told("pass", 9);
        for (int reader = 0; reader < 10; reader++) {
            grid.told("reserve", reader, 23);
        }
        return grid;
    }

    private void all() {
        grid("addHalt");
        grid("addLane", HALTS, HALTS, LENGTHS, UP_TO_9);
        grid("setRain", RAIN_DAYS, UP_TO_9);
        grid("setRound", ROUNDS, MINUTES);
        grid("halt", HALTS, WHATS);
        grid("lane", LANES, WHATS);
        grid("way", HALTS, HALTS);
        grid("addBook", UP_TO_5);
        grid("addReader", HALTS, UP_TO_5, KEEPS);
        grid("reserve", READERS, BOOKS);
        grid("cancel", READERS, BOOKS);
        grid("book", BOOKS, WHATS);
        grid("reader", READERS, WHATS);
        grid("pay", READERS, PENCE);
        grid("pass", DAYS);
        grid("count", WHATS);
        grid("foresee", DAYS, WHATS);
        grid("gets", READERS, BOOKS);
        grid("advise", DAYS);
        grid("daily");
        grid("digest");
    }

    private void grid(String call, int[]... edges) {
        Class<?>[] types = new Class<?>[edges.length];
        Arrays.fill(types, int.class);
        Method one = method(LibraryVan.class, call, types);
        Method other = method(PlainVan.class, call, types);
        int[] places = new int[edges.length];
        anew();
        while (true) {
            Object[] args = new Object[edges.length];
            for (int i = 0; i < edges.length; i++) {
                args[i] = edges[i][places[i]];
            }
            compare(call, one, other, args);
            int i = 0;
            while (i < edges.length && ++places[i] == edges[i].length) {
                places[i++] = 0;
            }
            if (i == edges.length) {
                return;
            }
        }
    }

    private void compare(String call, Method one, Method other, Object[] args) {
        String what = name + ", " + call + Arrays.toString(args);
        long before = van.digest();
        String got = answer(one, van, args);
        String due = answer(other, plain, args);
        Check.isTrue(what + ": got " + got + ", due is " + due, got.equals(due));
        Check.equal(what + ", digest", van.digest(), plain.digest());
        if (due.startsWith("throws")) {
            Check.equal(what + " changes nothing", van.digest(), before);
        } else {
            lookAhead(what);
            anew();
        }
    }

    /** What no digest tells: the minutes of the round, who has read which book. */
    private void lookAhead(String what) {
        for (int kind = 0; kind < 4; kind++) {
            Check.equal(what + ", foreseen " + kind, van.foresee(9, kind), plain.foresee(9, kind));
        }
    }

    private static Method method(Class<?> of, String call, Class<?>[] types) {
        try {
            return of.getDeclaredMethod(call, types);
        } catch (NoSuchMethodException e) {
            throw new IllegalArgumentException(call, e);
        }
    }

    private static String answer(Method call, Object of, Object[] args) {
        try {
            return String.valueOf(call.invoke(of, args));
        } catch (InvocationTargetException e) {
            boolean own = of instanceof PlainVan
                    || Check.isThrownByTheVan((RuntimeException) e.getCause());
            return "throws " + (own ? "" : "from elsewhere ") + e.getCause().getClass().getName();
        } catch (IllegalAccessException e) {
            throw new IllegalArgumentException(call.getName(), e);
        }
    }

    private void anew() {
        van = new LibraryVan();
        plain = new PlainVan();
        for (int[] row : setUp) {
            Object[] args = new Object[row.length - 1];
            Class<?>[] types = new Class<?>[args.length];
            for (int i = 0; i < args.length; i++) {
                args[i] = row[i + 1];
                types[i] = int.class;
            }
            String got = answer(method(LibraryVan.class, CALLS[row[0]], types), van, args);
            String due = answer(method(PlainVan.class, CALLS[row[0]], types), plain, args);
            Check.isTrue(name + " is set up by " + CALLS[row[0]] + Arrays.toString(args)
                    + ": got " + got + ", due is " + due,
                    got.equals(due) && !due.startsWith("throws"));
        }
    }
}
