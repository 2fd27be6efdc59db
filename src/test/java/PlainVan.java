import java.util.ArrayList;
import java.util.List;
import java.util.Set;
import java.util.TreeSet;

/**
 * The document said once more, as plainly as can be and without thrift, for RandomRunsTest.
 * Ways are found by trying every way, and looking ahead is done on a copy made from nothing.
 */
final class PlainVan {
    private static final class Lane {
        int a;
        int b;
        int length;
        int clay;
        int mud;
    }

    private static final class Book {
        int shelf;
        int reader = -1;
        int since = -1;
        int lent;
        List<Integer> queue = new ArrayList<>();
        Set<Integer> readBy = new TreeSet<>();
    }

    private static final class Reader {
        int halt;
        int shelf;
        int keeps;
        int pence;
        int lent;
    }

    private final List<int[]> halts = new ArrayList<>();
    private final List<Lane> lanes = new ArrayList<>();
    private final List<Book> books = new ArrayList<>();
    private final List<Reader> readers = new ArrayList<>();
    private final int[] rain = new int[7];
    private List<Integer> round = new ArrayList<>();
    private int minutes = 120;
    private int day;
    private int loans;
    private int latest;

    private PlainVan copy() {
        PlainVan copy = new PlainVan();
        for (int[] halt : halts) {
            copy.halts.add(halt.clone());
        }
        for (Lane lane : lanes) {
            Lane other = new Lane();
            other.a = lane.a;
            other.b = lane.b;
            other.length = lane.length;
            other.clay = lane.clay;
            other.mud = lane.mud;
            copy.lanes.add(other);
        }
        for (Book book : books) {
            Book other = new Book();
            other.shelf = book.shelf;
            other.reader = book.reader;
            other.since = book.since;
            other.lent = book.lent;
            other.queue.addAll(book.queue);
            other.readBy.addAll(book.readBy);
            copy.books.add(other);
        }
        for (Reader reader : readers) {
            Reader other = new Reader();
            other.halt = reader.halt;
            other.shelf = reader.shelf;
            other.keeps = reader.keeps;
            other.pence = reader.pence;
            other.lent = reader.lent;
            copy.readers.add(other);
        }
        System.arraycopy(rain, 0, copy.rain, 0, 7);
        copy.round.addAll(round);
        copy.minutes = minutes;
        copy.day = day;
        copy.loans = loans;
        copy.latest = latest;
        return copy;
    }

    private static void index(boolean holds) {
        if (!holds) {
            throw new IndexOutOfBoundsException();
        }
    }

    private static void argument(boolean holds) {
        if (!holds) {
            throw new IllegalArgumentException();
        }
    }

    private static void state(boolean holds) {
        if (!holds) {
            throw new IllegalStateException();
        }
    }

    private static boolean of(int number, int least, int most) {
        return least <= number && number <= most;
    }

    private void isHalt(int halt) {
        index(of(halt, 0, halts.size() - 1));
    }

    private void isReaderAndBook(int reader, int book) {
        index(of(reader, 0, readers.size() - 1) && of(book, 0, books.size() - 1));
    }

    int addHalt() {
        state(halts.size() < 8);
        halts.add(new int[2]);
        return halts.size() - 1;
    }

    int addLane(int a, int b, int length, int clay) {
        isHalt(a);
        isHalt(b);
        argument(a != b && of(length, 1, 30) && of(clay, 0, 9));
        state(lanes.size() < 16);
        Lane lane = new Lane();
        lane.a = a;
        lane.b = b;
        lane.length = length;
        lane.clay = clay;
        lanes.add(lane);
        return lanes.size() - 1;
    }

    int setRain(int dayOfTable, int newRain) {
        index(of(dayOfTable, 0, 6));
        argument(of(newRain, 0, 9));
        int before = rain[dayOfTable];
        rain[dayOfTable] = newRain;
        return before;
    }

    int setRound(int number, int newMinutes) {
        argument(number >= 0 && of(newMinutes, 10, 300));
        String digits = number == 0 ? "" : Integer.toString(number);
        argument(digits.length() <= 8);
        List<Integer> told = new ArrayList<>();
        for (char digit : digits.toCharArray()) {
            argument(of(digit - '0', 1, halts.size()));
            told.add(digit - '1');
        }
        round = told;
        minutes = newMinutes;
        return round.size();
    }

    int halt(int halt, int what) {
        isHalt(halt);
        index(of(what, 0, 4));
        switch (what) {
            case 0:
                return (int) readers.stream().filter(r -> r.halt == halt).count();
            case 1:
                return (int) lanes.stream().filter(l -> l.a == halt || l.b == halt).count();
            case 2:
                return (int) round.stream().filter(h -> h == halt).count();
            default:
                return halts.get(halt)[what - 3];
        }
    }

    int lane(int lane, int what) {
        index(of(lane, 0, lanes.size() - 1) && of(what, 0, 5));
        Lane it = lanes.get(lane);
        int[] answers = {it.a, it.b, it.length, it.clay, it.mud,
            it.mud <= 12 ? it.length + it.mud / 2 : -1};
        return answers[what];
    }

    int way(int from, int to) {
        isHalt(from);
        isHalt(to);
        return quickest(from, to, 0);
    }

    /** Tries every way that goes through no halt twice; seen has a bit for each one passed. */
    private int quickest(int from, int to, int seen) {
        if (from == to) {
            return 0;
        }
        int best = -1;
        for (Lane lane : lanes) {
            int next = lane.a == from ? lane.b : lane.b == from ? lane.a : -1;
            if (next < 0 || lane.mud > 12 || (seen >> next & 1) == 1) {
                continue;
            }
            int rest = quickest(next, to, seen | 1 << from);
            int all = lane.length + lane.mud / 2 + rest;
            if (rest >= 0 && (best < 0 || all < best)) {
                best = all;
            }
        }
        return best;
    }

    int addBook(int shelf) {
        argument(of(shelf, 0, 5));
        state(books.size() < 24);
        Book book = new Book();
        book.shelf = shelf;
        books.add(book);
        return books.size() - 1;
    }

    int addReader(int halt, int shelf, int keeps) {
        isHalt(halt);
        argument(of(shelf, 0, 5) && of(keeps, 1, 30));
        state(readers.size() < 10);
        Reader reader = new Reader();
        reader.halt = halt;
        reader.shelf = shelf;
        reader.keeps = keeps;
        readers.add(reader);
        return readers.size() - 1;
    }

    int reserve(int reader, int book) {
        isReaderAndBook(reader, book);
        Book it = books.get(book);
        state(!it.queue.contains(reader) && it.reader != reader);
        it.queue.add(reader);
        return it.queue.size();
    }

    int cancel(int reader, int book) {
        isReaderAndBook(reader, book);
        List<Integer> queue = books.get(book).queue;
        int place = queue.indexOf(reader);
        queue.remove((Integer) reader);
        return place;
    }

    int book(int book, int what) {
        index(of(book, 0, books.size() - 1) && of(what, 0, 6));
        Book it = books.get(book);
        int[] answers = {it.shelf, it.reader, it.since, it.queue.size(),
            it.queue.isEmpty() ? -1 : it.queue.get(0), it.lent, it.readBy.size()};
        return answers[what];
    }

    int reader(int reader, int what) {
        index(of(reader, 0, readers.size() - 1) && of(what, 0, 7));
        Reader it = readers.get(reader);
        int[] answers = {it.halt, it.shelf, it.keeps, has(reader),
            (int) books.stream().filter(b -> b.readBy.contains(reader)).count(), it.pence,
            (int) books.stream().filter(b -> b.queue.contains(reader)).count(), it.lent};
        return answers[what];
    }

    private int has(int reader) {
        return (int) books.stream().filter(b -> b.reader == reader).count();
    }

    int pay(int reader, int pence) {
        index(of(reader, 0, readers.size() - 1));
        argument(pence >= 1 && pence <= readers.get(reader).pence);
        return readers.get(reader).pence -= pence;
    }

    int pass(int days) {
        argument(of(days, 1, 60));
        int before = loans;
        for (int i = 0; i < days; i++) {
            passOne();
        }
        return loans - before;
    }

    private void passOne() {
        int rainNow = rain[day % 7];
        for (Lane lane : lanes) {
            int mud = rainNow > 0 ? lane.mud + rainNow * lane.clay / 4 : lane.mud - 2;
            lane.mud = mud > 20 ? 20 : mud < 0 ? 0 : mud;
        }
        int where = 0;
        int used = 0;
        boolean any = false;
        for (int halt : round) {
            int there = quickest(where, halt, 0);
            int home = quickest(halt, 0, 0);
            if (there >= 0 && home >= 0 && used + there + 5 + home <= minutes) {
                used += there + 5;
                where = halt;
                any = true;
                halts.get(halt)[0]++;
                serve(halt);
            } else {
                halts.get(halt)[1]++;
            }
        }
        latest = any ? used + quickest(where, 0, 0) : 0;
        day++;
    }

    private void serve(int halt) {
        List<Integer> there = new ArrayList<>();
        for (int reader = 0; reader < readers.size(); reader++) {
            if (readers.get(reader).halt == halt) {
                there.add(reader);
            }
        }
        for (int reader : there) {
            for (Book book : books) {
                int had = day - book.since;
                if (book.reader == reader && had >= readers.get(reader).keeps) {
                    readers.get(reader).pence += had > 14 ? had - 14 : 0;
                    book.reader = -1;
                    book.since = -1;
                }
            }
        }
        for (int reader : there) {
            for (Book book : books) {
                if (book.reader == -1 && has(reader) < 3 && book.queue.indexOf(reader) == 0) {
                    book.queue.remove(0);
                    lend(book, reader);
                }
            }
        }
        for (int reader : there) {
            int shelf = readers.get(reader).shelf;
            if (has(reader) < 3) {
                books.stream()
                        .filter(b -> b.reader == -1 && b.shelf == shelf && b.queue.isEmpty())
                        .filter(b -> !b.readBy.contains(reader))
                        .findFirst()
                        .ifPresent(b -> lend(b, reader));
            }
        }
    }

    private void lend(Book book, int reader) {
        book.reader = reader;
        book.since = day;
        book.lent++;
        book.readBy.add(reader);
        readers.get(reader).lent++;
        loans++;
    }

    int count(int what) {
        index(of(what, 0, 9));
        int[] answers = {day, halts.size(), lanes.size(), books.size(), readers.size(),
            (int) books.stream().filter(b -> b.reader == -1).count(), loans,
            readers.stream().mapToInt(r -> r.pence).sum(),
            (int) lanes.stream().filter(l -> l.mud > 12).count(), latest};
        return answers[what];
    }

    int foresee(int days, int what) {
        argument(of(days, 1, 60));
        index(of(what, 0, 3));
        PlainVan ahead = copy();
        int lent = ahead.pass(days);
        int missed = 0;
        for (int halt = 0; halt < halts.size(); halt++) {
            missed += ahead.halts.get(halt)[1] - halts.get(halt)[1];
        }
        int[] answers = {lent, missed, ahead.count(5), ahead.count(7)};
        return answers[what];
    }

    int gets(int reader, int book) {
        isReaderAndBook(reader, book);
        PlainVan ahead = copy();
        for (int days = 0; days <= 100; days++) {
            if (ahead.books.get(book).reader == reader) {
                return days;
            }
            ahead.passOne();
        }
        return -1;
    }

    int advise(int days) {
        argument(of(days, 1, 30));
        state(round.size() < 8);
        int best = -1;
        int most = copy().pass(days);
        for (int halt = 0; halt < halts.size(); halt++) {
            PlainVan ahead = copy();
            ahead.round.add(halt);
            int lent = ahead.pass(days);
            if (lent > most) {
                most = lent;
                best = halt;
            }
        }
        return best;
    }

    double daily() {
        return day == 0 ? 0.0 : (double) loans / day;
    }

    long digest() {
        List<Integer> numbers = new ArrayList<>();
        for (int what = 0; what < 10; what++) {
            numbers.add(count(what));
        }
        for (int one : rain) {
            numbers.add(one);
        }
        numbers.addAll(round);
        for (int halt = 0; halt < halts.size(); halt++) {
            for (int what = 0; what < 5; what++) {
                numbers.add(halt(halt, what));
            }
        }
        for (int lane = 0; lane < lanes.size(); lane++) {
            for (int what = 0; what < 6; what++) {
                numbers.add(lane(lane, what));
            }
        }
        for (int book = 0; book < books.size(); book++) {
            for (int what = 0; what < 7; what++) {
                numbers.add(book(book, what));
            }
            numbers.addAll(books.get(book).queue);
        }
        for (int reader = 0; reader < readers.size(); reader++) {
            for (int what = 0; what < 8; what++) {
                numbers.add(reader(reader, what));
            }
        }
        long d = 607;
        for (int number : numbers) {
            d = d * 31 + number;
        }
        return d;
    }
}
