import java.util.ArrayList;

/**
 * A library van that goes its round from halt to halt, lends books and takes them back.
 *
 * <p>There are two worlds: the one that is, and one for trials, into which the first is copied
 * whenever a call looks ahead. Both are made once, so that looking ahead makes no objects.
 */
public final class LibraryVan {
    private static final int HOME = 0;
    private static final int NOBODY = -1;
    private static final int NONE = -1;

    private static final int MAX_HALTS = 8;
    private static final int MAX_LANES = 16;
    private static final int MAX_BOOKS = 24;
    private static final int MAX_READERS = 10;
    private static final int MAX_LENGTH = 30;
    private static final int MAX_CLAY = 9;
    private static final int MAX_RAIN = 9;
    private static final int MAX_SHELF = 5;
    private static final int MAX_KEEPS = 30;
    private static final int RAIN_DAYS = 7;

    private static final int HIGHEST_ROUND = 99_999_999;
    private static final int HIGHEST_ROUND_PLACE = 10_000_000;
    private static final int MIN_MINUTES = 10;
    private static final int MAX_MINUTES = 300;
    private static final int FIRST_MINUTES = 120;
    private static final int MINUTES_AT_HALT = 5;

    private static final int MAX_MUD = 20;
    private static final int MAX_MUD_FOR_VAN = 12;
    private static final int DRIED_IN_A_DAY = 2;

    private static final int MAX_BOOKS_OF_READER = 3;
    private static final int DAYS_WITHOUT_FINE = 14;

    private static final int MAX_PASS = 60;
    private static final int MAX_GETS = 100;
    private static final int MAX_ADVISE = 30;
    private static final long DIGEST_START = 607L;

    /** More minutes than any way can take: what is so far away is not reached. */
    private static final int FAR = 1_000_000;

    private static final int HALT_ANSWERS = 5;
    private static final int LANE_ANSWERS = 6;
    private static final int BOOK_ANSWERS = 7;
    private static final int READER_ANSWERS = 8;
    private static final int COUNT_ANSWERS = 10;
    private static final int FORESEE_ANSWERS = 4;

    private final World now;
    private final World trial;

    public LibraryVan() {
        now = new World();
        trial = new World();
    }

    // ---- halts, lanes, the round

    public int addHalt() throws IllegalStateException {
        int number = now.halts.size();
        if (number >= MAX_HALTS) {
            throw new IllegalStateException("there are 8 halts");
        }
        now.halts.add(new Halt());
        trial.halts.add(new Halt());
        return number;
    }

    public int addLane(int a, int b, int length, int clay)
            throws IndexOutOfBoundsException, IllegalArgumentException, IllegalStateException {
        needHalt(a);
        needHalt(b);
        if (a == b) {
            throw new IllegalArgumentException("a lane goes between two different halts");
        }
        if (!isWithin(length, 1, MAX_LENGTH)) {
            throw new IllegalArgumentException("length is not 1 to 30");
        }
        if (!isWithin(clay, 0, MAX_CLAY)) {
            throw new IllegalArgumentException("clay is not 0 to 9");
        }
        int number = now.lanes.size();
        if (number >= MAX_LANES) {
            throw new IllegalStateException("there are 16 lanes");
        }
        now.lanes.add(new Lane(a, b, length, clay));
        trial.lanes.add(new Lane(a, b, length, clay));
        return number;
    }

    public int setRain(int day, int rain)
            throws IndexOutOfBoundsException, IllegalArgumentException {
        needKind(day, RAIN_DAYS);
        if (!isWithin(rain, 0, MAX_RAIN)) {
            throw new IllegalArgumentException("rain is not 0 to 9");
        }
        return now.changeRain(day, rain);
    }

    public int setRound(int halts, int minutes) throws IllegalArgumentException {
        if (!isWithin(halts, 0, HIGHEST_ROUND)) {
            throw new IllegalArgumentException("halts is not a number of at most 8 digits");
        }
        if (!standsForHalts(halts, now.halts.size())) {
            throw new IllegalArgumentException("a digit of halts stands for no halt");
        }
        if (!isWithin(minutes, MIN_MINUTES, MAX_MINUTES)) {
            throw new IllegalArgumentException("minutes is not 10 to 300");
        }
        now.round.tellAnew(halts, minutes);
        return now.round.size();
    }

    public int halt(int halt, int what) throws IndexOutOfBoundsException {
        needHalt(halt);
        needKind(what, HALT_ANSWERS);
        return now.haltAnswer(halt, what);
    }

    public int lane(int lane, int what) throws IndexOutOfBoundsException {
        needKind(lane, now.lanes.size());
        needKind(what, LANE_ANSWERS);
        return now.laneAnswer(lane, what);
    }

    public int way(int from, int to) throws IndexOutOfBoundsException {
        needHalt(from);
        needHalt(to);
        return now.minutesOfWay(from, to);
    }

    // ---- books and readers

    public int addBook(int shelf) throws IllegalArgumentException, IllegalStateException {
        if (!isWithin(shelf, 0, MAX_SHELF)) {
            throw new IllegalArgumentException("shelf is not 0 to 5");
        }
        int number = now.books.size();
        if (number >= MAX_BOOKS) {
            throw new IllegalStateException("there are 24 books");
        }
        now.books.add(new Book(number, shelf));
        trial.books.add(new Book(number, shelf));
        return number;
    }

    public int addReader(int halt, int shelf, int keeps)
            throws IndexOutOfBoundsException, IllegalArgumentException, IllegalStateException {
        needHalt(halt);
        if (!isWithin(shelf, 0, MAX_SHELF)) {
            throw new IllegalArgumentException("shelf is not 0 to 5");
        }
        if (!isWithin(keeps, 1, MAX_KEEPS)) {
            throw new IllegalArgumentException("keeps is not 1 to 30");
        }
        int number = now.readers.size();
        if (number >= MAX_READERS) {
            throw new IllegalStateException("there are 10 readers");
        }
        now.readers.add(new Reader(number, halt, shelf, keeps));
        trial.readers.add(new Reader(number, halt, shelf, keeps));
        return number;
    }

    public int reserve(int reader, int book)
            throws IndexOutOfBoundsException, IllegalStateException {
        needReader(reader);
        needBook(book);
        Book wanted = now.books.get(book);
        if (wanted.queue.placeOf(reader) != NONE) {
            throw new IllegalStateException("the reader is in the queue");
        }
        if (wanted.holder == reader) {
            throw new IllegalStateException("the reader has the book");
        }
        wanted.queue.join(reader);
        return wanted.queue.size();
    }

    public int cancel(int reader, int book) throws IndexOutOfBoundsException {
        needReader(reader);
        needBook(book);
        Queue queue = now.books.get(book).queue;
        int place = queue.placeOf(reader);
        queue.dropPlace(place);
        return place;
    }

    public int book(int book, int what) throws IndexOutOfBoundsException {
        needBook(book);
        needKind(what, BOOK_ANSWERS);
        return now.bookAnswer(book, what);
    }

    public int reader(int reader, int what) throws IndexOutOfBoundsException {
        needReader(reader);
        needKind(what, READER_ANSWERS);
        return now.readerAnswer(reader, what);
    }

    public int pay(int reader, int pence)
            throws IndexOutOfBoundsException, IllegalArgumentException {
        needReader(reader);
        Reader payer = now.readers.get(reader);
        if (!isWithin(pence, 1, payer.pence)) {
            throw new IllegalArgumentException("pence is less than 1, or more than is owed");
        }
        payer.pence -= pence;
        return payer.pence;
    }

    // ---- days

    public int pass(int days) throws IllegalArgumentException {
        needDays(days, MAX_PASS);
        int before = now.loansOfAll();
        now.passDays(days);
        return now.loansOfAll() - before;
    }

    public int count(int what) throws IndexOutOfBoundsException {
        needKind(what, COUNT_ANSWERS);
        return now.countAnswer(what);
    }

    // ---- looking ahead

    public int foresee(int days, int what)
            throws IllegalArgumentException, IndexOutOfBoundsException {
        needDays(days, MAX_PASS);
        needKind(what, FORESEE_ANSWERS);
        trial.copyFrom(now);
        trial.passDays(days);
        switch (what) {
            case 0:
                return trial.loansOfAll() - now.loansOfAll();
            case 1:
                return trial.missesOfAll() - now.missesOfAll();
            case 2:
                return trial.booksOnVan();
            default:
                return trial.penceOfAll();
        }
    }

    public int gets(int reader, int book) throws IndexOutOfBoundsException {
        needReader(reader);
        needBook(book);
        if (now.holderOf(book) == reader) {
            return 0;
        }
        trial.copyFrom(now);
        for (int days = 1; days <= MAX_GETS; days++) {
            trial.passDays(1);
            // What is lent on a day stays out to its end: nobody keeps a book for less than a day.
            if (trial.holderOf(book) == reader) {
                return days;
            }
        }
        return NONE;
    }

    public int advise(int days) throws IllegalArgumentException, IllegalStateException {
        needDays(days, MAX_ADVISE);
        if (now.round.size() >= MAX_HALTS) {
            throw new IllegalStateException("the round has 8 halts");
        }
        int best = NONE;
        int most = loansAhead(days, NONE);
        for (int halt = 0; halt < now.halts.size(); halt++) {
            int loans = loansAhead(days, halt);
            if (loans > most) {
                best = halt;
                most = loans;
            }
        }
        return best;
    }

    public double daily() {
        if (now.day <= 0) {
            return 0.0;
        }
        return (double) now.loansOfAll() / (double) now.day;
    }

    public long digest() {
        long d = now.mixVan(DIGEST_START);
        d = now.mixHaltsAndLanes(d);
        return now.mixBooksAndReaders(d);
    }

    // ---- what several calls share

    private static boolean isWithin(int number, int least, int most) {
        return number >= least && number <= most;
    }

    private static void needKind(int number, int kinds) {
        if (number < 0 || number >= kinds) {
            throw new IndexOutOfBoundsException("there is nothing with this number");
        }
    }

    private static void needDays(int days, int most) {
        if (!isWithin(days, 1, most)) {
            throw new IllegalArgumentException("so many days are not allowed");
        }
    }

    private void needHalt(int halt) {
        needKind(halt, now.halts.size());
    }

    private void needBook(int book) {
        needKind(book, now.books.size());
    }

    private void needReader(int reader) {
        needKind(reader, now.readers.size());
    }

    private static boolean standsForHalts(int number, int halts) {
        for (int rest = number; rest > 0; rest /= 10) {
            if (!isWithin(rest % 10, 1, halts)) {
                return false;
            }
        }
        return true;
    }

    /** The loans in so many days, with this halt at the end of the round; as it is for NONE. */
    private int loansAhead(int days, int halt) {
        trial.copyFrom(now);
        if (halt != NONE) {
            trial.round.append(halt);
        }
        trial.passDays(days);
        return trial.loansOfAll() - now.loansOfAll();
    }

    private static long mix(long d, long x) {
        return d * 31L + x;
    }

    private static void copyRow(int[] from, int[] to) {
        for (int i = 0; i < from.length && i < to.length; i++) {
            to[i] = from[i];
        }
    }

    // ---- the parts of a world

    private static final class Halt {
        private int served;
        private int missed;

        void copyFrom(Halt other) {
            served = other.served;
            missed = other.missed;
        }
    }

    private static final class Lane {
        private final int a;
        private final int b;
        private final int length;
        private final int clay;
        private int mud;

        Lane(int a, int b, int length, int clay) {
            this.a = a;
            this.b = b;
            this.length = length;
            this.clay = clay;
        }

        boolean isUsable() {
            return mud <= MAX_MUD_FOR_VAN;
        }

        int minutes() {
            return length + mud / 2;
        }

        void weather(int rain) {
            mud = rain > 0
                    ? Math.min(MAX_MUD, mud + rain * clay / 4)
                    : Math.max(0, mud - DRIED_IN_A_DAY);
        }

        void copyFrom(Lane other) {
            mud = other.mud;
        }
    }

    /** The times of the quickest ways between all halts, there and back alike. */
    private static final class Ways {
        private final int[] times = new int[MAX_HALTS * MAX_HALTS];

        void measure(int halts, ArrayList<Lane> lanes) {
            for (int i = 0; i < times.length; i++) {
                times[i] = FAR;
            }
            for (int i = 0; i < lanes.size(); i++) {
                Lane lane = lanes.get(i);
                if (lane.isUsable()) {
                    shorten(lane.a, lane.b, lane.minutes());
                }
            }
            for (int via = 0; via < halts; via++) {
                for (int from = 0; from < halts; from++) {
                    int there = time(from, via);
                    for (int to = 0; there < FAR && to < from; to++) {
                        shorten(from, to, there + time(via, to));
                    }
                }
            }
        }

        int time(int from, int to) {
            if (from == to) {
                return 0;
            }
            int place = from > to ? from * MAX_HALTS + to : to * MAX_HALTS + from;
            return place >= 0 && place < times.length ? times[place] : FAR;
        }

        private void shorten(int from, int to, int minutes) {
            int place = from > to ? from * MAX_HALTS + to : to * MAX_HALTS + from;
            if (place >= 0 && place < times.length && minutes < times[place]) {
                times[place] = minutes;
            }
        }
    }

    private static final class Round {
        private final int[] halts = new int[MAX_HALTS];
        private int size;
        private int minutes = FIRST_MINUTES;

        int size() {
            return size;
        }

        int haltAt(int place) {
            return place >= 0 && place < halts.length ? halts[place] : NONE;
        }

        void append(int halt) {
            if (size >= 0 && size < halts.length) {
                halts[size] = halt;
                size++;
            }
        }

        /** Takes the digits of the number as halts, the highest first, 1 for the halt 0. */
        void tellAnew(int number, int newMinutes) {
            minutes = newMinutes;
            size = 0;
            for (int place = HIGHEST_ROUND_PLACE; place > 0; place /= 10) {
                int digit = number / place % 10;
                if (digit > 0) {
                    append(digit - 1);
                }
            }
        }

        int timesOf(int halt) {
            int times = 0;
            for (int i = 0; i < size; i++) {
                if (haltAt(i) == halt) {
                    times++;
                }
            }
            return times;
        }

        void copyFrom(Round other) {
            copyRow(other.halts, halts);
            size = other.size;
            minutes = other.minutes;
        }
    }

    /** The readers who have reserved a book, by their numbers, the first one in front. */
    private static final class Queue {
        private final int[] readers = new int[MAX_READERS];
        private int size;

        int size() {
            return size;
        }

        int readerAt(int place) {
            return place >= 0 && place < size && place < readers.length ? readers[place] : NOBODY;
        }

        int first() {
            return size > 0 && readers.length > 0 ? readers[0] : NOBODY;
        }

        int placeOf(int reader) {
            for (int i = 0; i < size && i < readers.length; i++) {
                if (readers[i] == reader) {
                    return i;
                }
            }
            return NONE;
        }

        void join(int reader) {
            if (size >= 0 && size < readers.length) {
                readers[size] = reader;
                size++;
            }
        }

        void dropPlace(int place) {
            if (place < 0 || place >= size) {
                return;
            }
            for (int i = place; i + 1 < size && i + 1 < readers.length; i++) {
                readers[i] = readers[i + 1];
            }
            size--;
        }

        void copyFrom(Queue other) {
            copyRow(other.readers, readers);
            size = other.size;
        }
    }

    private static final class Book {
        private final int number;
        private final int shelf;
        private final Queue queue = new Queue();
        private int holder = NOBODY;
        private int since = NONE;
        private int loans;

        Book(int number, int shelf) {
            this.number = number;
            this.shelf = shelf;
        }

        boolean isOnVan() {
            return holder == NOBODY;
        }

        void lendTo(Reader reader, int day) {
            holder = reader.number;
            since = day;
            loans++;
            reader.has++;
            reader.read |= 1 << number;
            reader.loans++;
        }

        void comeBackFrom(Reader reader, int days) {
            holder = NOBODY;
            since = NONE;
            reader.has--;
            if (days > DAYS_WITHOUT_FINE) {
                reader.pence += days - DAYS_WITHOUT_FINE;
            }
        }

        void copyFrom(Book other) {
            queue.copyFrom(other.queue);
            holder = other.holder;
            since = other.since;
            loans = other.loans;
        }
    }

    private static final class Reader {
        private final int number;
        private final int halt;
        private final int shelf;
        private final int keeps;
        private int has;
        /** A bit for each book that was read, that of the book 0 lowest. */
        private int read;
        private int pence;
        private int loans;

        Reader(int number, int halt, int shelf, int keeps) {
            this.number = number;
            this.halt = halt;
            this.shelf = shelf;
            this.keeps = keeps;
        }

        boolean takesMore() {
            return has < MAX_BOOKS_OF_READER;
        }

        boolean hasRead(int book) {
            return (read >> book & 1) == 1;
        }

        void copyFrom(Reader other) {
            has = other.has;
            read = other.read;
            pence = other.pence;
            loans = other.loans;
        }
    }

    /** All that a day changes or looks at. */
    private static final class World {
        private final ArrayList<Halt> halts = new ArrayList<>();
        private final ArrayList<Lane> lanes = new ArrayList<>();
        private final ArrayList<Book> books = new ArrayList<>();
        private final ArrayList<Reader> readers = new ArrayList<>();
        private final Ways ways = new Ways();
        private final Round round = new Round();
        private final int[] rain = new int[RAIN_DAYS];
        private int day;
        private int latestMinutes;

        int changeRain(int dayOfTable, int newRain) {
            if (dayOfTable < 0 || dayOfTable >= rain.length) {
                return 0;
            }
            int before = rain[dayOfTable];
            rain[dayOfTable] = newRain;
            return before;
        }

        private int rainOf(int dayOfTable) {
            return dayOfTable >= 0 && dayOfTable < rain.length ? rain[dayOfTable] : 0;
        }

        int minutesOfWay(int from, int to) {
            ways.measure(halts.size(), lanes);
            int minutes = ways.time(from, to);
            return minutes < FAR ? minutes : NONE;
        }

        int holderOf(int book) {
            return book >= 0 && book < books.size() ? books.get(book).holder : NOBODY;
        }

        void copyFrom(World other) {
            for (int i = 0; i < halts.size() && i < other.halts.size(); i++) {
                halts.get(i).copyFrom(other.halts.get(i));
            }
            for (int i = 0; i < lanes.size() && i < other.lanes.size(); i++) {
                lanes.get(i).copyFrom(other.lanes.get(i));
            }
            for (int i = 0; i < books.size() && i < other.books.size(); i++) {
                books.get(i).copyFrom(other.books.get(i));
            }
            for (int i = 0; i < readers.size() && i < other.readers.size(); i++) {
                readers.get(i).copyFrom(other.readers.get(i));
            }
            round.copyFrom(other.round);
            copyRow(other.rain, rain);
            day = other.day;
            latestMinutes = other.latestMinutes;
        }

        // ---- a day

        void passDays(int days) {
            for (int i = 0; i < days; i++) {
                weather();
                goRound();
                day++;
            }
        }

        private void weather() {
            int rainNow = rainOf(Math.floorMod(day, RAIN_DAYS));
            for (int i = 0; i < lanes.size(); i++) {
                lanes.get(i).weather(rainNow);
            }
        }

        private void goRound() {
            ways.measure(halts.size(), lanes);
            int place = HOME;
            int used = 0;
            for (int i = 0; i < round.size(); i++) {
                int halt = round.haltAt(i);
                int there = ways.time(place, halt);
                int home = ways.time(halt, HOME);
                boolean goes = there < FAR && home < FAR
                        && used + there + MINUTES_AT_HALT + home <= round.minutes;
                if (goes) {
                    used += there + MINUTES_AT_HALT;
                    place = halt;
                    takeBooksBack(halt);
                    lendReservedBooks(halt);
                    lendOtherBooks(halt);
                }
                noteVisit(halt, goes);
            }
            latestMinutes = used > 0 ? used + ways.time(place, HOME) : 0;
        }

        private void noteVisit(int number, boolean served) {
            if (number < 0 || number >= halts.size()) {
                return;
            }
            Halt halt = halts.get(number);
            if (served) {
                halt.served++;
            } else {
                halt.missed++;
            }
        }

        // Here, and with reserved books, no reader's books touch another's, and each reader's
        // still come in their order: one look at each book does as well as reader by reader.

        private void takeBooksBack(int halt) {
            for (int i = 0; i < books.size(); i++) {
                Book book = books.get(i);
                Reader reader = readerWith(book.holder);
                if (reader != null && reader.halt == halt && day - book.since >= reader.keeps) {
                    book.comeBackFrom(reader, day - book.since);
                }
            }
        }

        private void lendReservedBooks(int halt) {
            for (int i = 0; i < books.size(); i++) {
                Book book = books.get(i);
                Reader reader = book.isOnVan() ? readerWith(book.queue.first()) : null;
                if (reader != null && reader.halt == halt && reader.takesMore()) {
                    book.queue.dropPlace(0);
                    book.lendTo(reader, day);
                }
            }
        }

        private Reader readerWith(int number) {
            return number >= 0 && number < readers.size() ? readers.get(number) : null;
        }

        private void lendOtherBooks(int halt) {
            for (int i = 0; i < readers.size(); i++) {
                Reader reader = readers.get(i);
                if (reader.halt == halt && reader.takesMore()) {
                    lendOtherBookTo(reader);
                }
            }
        }

        private void lendOtherBookTo(Reader reader) {
            for (int i = 0; i < books.size(); i++) {
                Book book = books.get(i);
                if (book.isOnVan() && book.shelf == reader.shelf
                        && book.queue.size() == 0 && !reader.hasRead(book.number)) {
                    book.lendTo(reader, day);
                    return;
                }
            }
        }

        // ---- answers

        int haltAnswer(int number, int what) {
            if (number < 0 || number >= halts.size()) {
                return NONE;
            }
            Halt halt = halts.get(number);
            switch (what) {
                case 0:
                    return readersAt(number);
                case 1:
                    return lanesAt(number);
                case 2:
                    return round.timesOf(number);
                case 3:
                    return halt.served;
                default:
                    return halt.missed;
            }
        }

        int laneAnswer(int number, int what) {
            if (number < 0 || number >= lanes.size()) {
                return NONE;
            }
            Lane lane = lanes.get(number);
            switch (what) {
                case 0:
                    return lane.a;
                case 1:
                    return lane.b;
                case 2:
                    return lane.length;
                case 3:
                    return lane.clay;
                case 4:
                    return lane.mud;
                default:
                    return lane.isUsable() ? lane.minutes() : NONE;
            }
        }

        int bookAnswer(int number, int what) {
            if (number < 0 || number >= books.size()) {
                return NONE;
            }
            Book book = books.get(number);
            switch (what) {
                case 0:
                    return book.shelf;
                case 1:
                    return book.holder;
                case 2:
                    return book.since;
                case 3:
                    return book.queue.size();
                case 4:
                    return book.queue.first();
                case 5:
                    return book.loans;
                default:
                    return readersWhoRead(number);
            }
        }

        int readerAnswer(int number, int what) {
            if (number < 0 || number >= readers.size()) {
                return NONE;
            }
            Reader reader = readers.get(number);
            switch (what) {
                case 0:
                    return reader.halt;
                case 1:
                    return reader.shelf;
                case 2:
                    return reader.keeps;
                case 3:
                    return reader.has;
                case 4:
                    return Integer.bitCount(reader.read);
                case 5:
                    return reader.pence;
                case 6:
                    return booksReservedBy(number);
                default:
                    return reader.loans;
            }
        }

        int countAnswer(int what) {
            switch (what) {
                case 0:
                    return day;
                case 1:
                    return halts.size();
                case 2:
                    return lanes.size();
                case 3:
                    return books.size();
                case 4:
                    return readers.size();
                case 5:
                    return booksOnVan();
                case 6:
                    return loansOfAll();
                case 7:
                    return penceOfAll();
                case 8:
                    return lanesTooMuddy();
                default:
                    return latestMinutes;
            }
        }

        private int readersAt(int halt) {
            int found = 0;
            for (int i = 0; i < readers.size(); i++) {
                if (readers.get(i).halt == halt) {
                    found++;
                }
            }
            return found;
        }

        private int lanesAt(int halt) {
            int found = 0;
            for (int i = 0; i < lanes.size(); i++) {
                Lane lane = lanes.get(i);
                if (lane.a == halt || lane.b == halt) {
                    found++;
                }
            }
            return found;
        }

        private int readersWhoRead(int book) {
            int found = 0;
            for (int i = 0; i < readers.size(); i++) {
                if (readers.get(i).hasRead(book)) {
                    found++;
                }
            }
            return found;
        }

        private int booksReservedBy(int reader) {
            int found = 0;
            for (int i = 0; i < books.size(); i++) {
                if (books.get(i).queue.placeOf(reader) != NONE) {
                    found++;
                }
            }
            return found;
        }

        int booksOnVan() {
            int found = 0;
            for (int i = 0; i < books.size(); i++) {
                if (books.get(i).isOnVan()) {
                    found++;
                }
            }
            return found;
        }

        int loansOfAll() {
            int loans = 0;
            for (int i = 0; i < books.size(); i++) {
                loans += books.get(i).loans;
            }
            return loans;
        }

        int missesOfAll() {
            int misses = 0;
            for (int i = 0; i < halts.size(); i++) {
                misses += halts.get(i).missed;
            }
            return misses;
        }

        int penceOfAll() {
            int pence = 0;
            for (int i = 0; i < readers.size(); i++) {
                pence += readers.get(i).pence;
            }
            return pence;
        }

        private int lanesTooMuddy() {
            int found = 0;
            for (int i = 0; i < lanes.size(); i++) {
                if (!lanes.get(i).isUsable()) {
                    found++;
                }
            }
            return found;
        }

        // ---- the digest

        long mixVan(long start) {
            long d = start;
            for (int what = 0; what < COUNT_ANSWERS; what++) {
                d = mix(d, countAnswer(what));
            }
            for (int i = 0; i < RAIN_DAYS; i++) {
                d = mix(d, rainOf(i));
            }
            for (int i = 0; i < round.size(); i++) {
                d = mix(d, round.haltAt(i));
            }
            return d;
        }

        long mixHaltsAndLanes(long start) {
            long d = start;
            for (int i = 0; i < halts.size(); i++) {
                for (int what = 0; what < HALT_ANSWERS; what++) {
                    d = mix(d, haltAnswer(i, what));
                }
            }
            for (int i = 0; i < lanes.size(); i++) {
                for (int what = 0; what < LANE_ANSWERS; what++) {
                    d = mix(d, laneAnswer(i, what));
                }
            }
            return d;
        }

        long mixBooksAndReaders(long start) {
            long d = start;
            for (int i = 0; i < books.size(); i++) {
                for (int what = 0; what < BOOK_ANSWERS; what++) {
                    d = mix(d, bookAnswer(i, what));
                }
                Queue queue = books.get(i).queue;
                for (int place = 0; place < queue.size(); place++) {
                    d = mix(d, queue.readerAt(place));
                }
            }
            for (int i = 0; i < readers.size(); i++) {
                for (int what = 0; what < READER_ANSWERS; what++) {
                    d = mix(d, readerAnswer(i, what));
                }
            }
            return d;
        }
    }
}
