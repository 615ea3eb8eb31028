import java.util.NoSuchElementException;

/** A court, a tongue that tells rank by the order of words, and what can be drawn from its sayings. */
public final class CourtTongue {
    public static final int NONE = -1;

    private static final int NO_MORE = -2;
    private static final long NO_VALUE = 1L << 63;
    private static final long MOST_VALUE = 1000000000000L;

    private static final int MOST_BYTES = 700;
    private static final int FED_BYTES = 20;
    private static final int MOST_PEOPLE = 5;
    private static final int MOST_PARTS = 5;
    private static final int MOST_AGE = 99;
    private static final int MOST_NUMBER = 9999;
    private static final int MOST_KNOTS = 64;
    private static final int MOST_OPEN = 8;
    private static final int MOST_TOLD_FACTS = 16;
    private static final int MOST_FACTS = 24;
    private static final int MOST_HEARD = 24;
    private static final int SEASONS = 4;
    private static final int WAYS = 27;

    // Rows that are indexed by a person have eight places, as a person takes three bits elsewhere.
    private static final int ROOM = 8;

    private static final int TOO_STRANGE = 1;
    private static final int TOO_MUCH = 2;
    private static final int TOLD_ALREADY = 3;
    private static final int NOT_TOLD = 4;
    private static final int ABOVE_ITSELF = 5;

    // The words of the language, six columns each, in the order of their numbers.
    private static final String LANGUAGE =
        "personabove level part  seasonrise  in    or    and   not   hearertheme both  elder old   time  self  gap   ";
    private static final int WORDS = 18;
    private static final int WORD_LETTERS = 6;
    private static final int PERSON = 0;
    private static final int ABOVE = 1;
    private static final int LEVEL = 2;
    private static final int PART = 3;
    private static final int SEASON = 4;
    private static final int RISE = 5;
    private static final int IN = 6;
    private static final int OR_WORD = 7;
    private static final int AND_WORD = 8;
    private static final int NOT_WORD = 9;
    private static final int FIRST_NAME_WORD = 10;

    private static final int NAMES = 8;
    private static final int HEARER = 0;
    private static final int THEME = 1;
    private static final int BOTH = 2;
    private static final int ELDER = 3;
    private static final int OLD = 4;
    private static final int TIME = 5;
    private static final int SELF = 6;
    private static final int GAP = 7;

    // A knot of an E is a number up to 9999, or one of these, which lie above all numbers.
    private static final int NAME_KNOT = 10000;
    private static final int OR = 10010;
    private static final int AND = 10011;
    private static final int NOT = 10012;
    private static final int LESS = 10013;
    private static final int AT_MOST = 10014;
    private static final int LIKE = 10015;
    private static final int UNLIKE = 10016;
    private static final int AT_LEAST = 10017;
    private static final int MORE = 10018;
    private static final int PLUS = 10019;
    private static final int MINUS = 10020;
    private static final int TIMES = 10021;
    private static final int OVER = 10022;
    private static final int OPEN = 10030;
    private static final int CLOSE = 10031;
    private static final int LINE_END = 10032;

    private final Reader reader = new Reader();
    private int tapeLength;
    private final Book book = new Book();
    private final Facts facts = new Facts();
    private int seasonNow;
    private final Facts imageFacts = new Facts();
    private int imageSeason;
    private boolean imageKept;
    private final Order scale = new Order();
    private final Saying saying = new Saying();
    private final Memory memory = new Memory();
    private final Orders orders = new Orders();
    private final Climb climb = new Climb();

    public CourtTongue() {
    }

    // ---- the TEXT ----

    public int feed(int a, int b, int c, int d, int e) {
        if (tapeLength + FED_BYTES > MOST_BYTES) {
            return NONE;
        }
        layBytes(a);
        layBytes(b);
        layBytes(c);
        layBytes(d);
        layBytes(e);
        return tapeLength;
    }

    public int text(int n) {
        if (n < 0 || n > tapeLength) {
            return NO_MORE;
        }
        tapeLength = 0;
        reader.open(n);
        for (int line = 0; line <= n && reader.isGoing(); line++) {
            reader.readLine();
        }
        if (reader.fault != 0) {
            return NONE;
        }
        book.take(reader.draft);
        facts.take(reader.draftFacts);
        seasonNow = book.firstSeason;
        memory.clear();
        orders.forget();
        imageKept = false;
        return reader.lines;
    }

    public int fault(int what) {
        if (what == 0) {
            return reader.fault;
        }
        return what == 1 ? reader.faultPlace : NONE;
    }

    public int named(int what, int letters) {
        if (what == 0) {
            return book.personNamed(letters);
        }
        return what == 1 ? book.partNamed(letters) : NONE;
    }

    // ---- the ORDER ----

    public int look(int person, int what) throws IndexOutOfBoundsException, NoSuchElementException {
        if (!isPerson(person)) {
            throw new IndexOutOfBoundsException();
        }
        if (what < 0 || what > 3) {
            throw new NoSuchElementException();
        }
        scale.build(facts, seasonNow, book.people);
        switch (what) {
            case 0:
                return at(book.ages, person);
            case 1:
                return scale.countAbove(person);
            case 2:
                return Integer.bitCount(scale.belowOf(person));
            default:
                return Integer.bitCount(scale.levelWith(person)) - 1;
        }
    }

    public int stands(int one, int other, int season) {
        if (!areTwo(one, other) || !isSeason(season)) {
            return NONE;
        }
        scale.build(facts, season, book.people);
        int standing = scale.between(one, other);
        return standing < 0 ? 2 : standing;
    }

    public boolean season(int season) {
        if (!isSeason(season)) {
            return false;
        }
        seasonNow = season;
        return true;
    }

    public int raise(int one, int other, int how) {
        if (!areTwo(one, other) || how < 0 || how > 1 || facts.size >= MOST_FACTS) {
            return NONE;
        }
        if (facts.tells(one, other, how, NONE)) {
            return NONE;
        }
        facts.add(one, other, how, NONE);
        if (scale.bendsInSomeSeason(facts, book.people)) {
            facts.dropLast();
            return NONE;
        }
        return facts.size - 1;
    }

    public boolean strike(int fact) {
        if (!facts.lives(fact)) {
            return false;
        }
        facts.strikeOut(fact);
        return true;
    }

    public int fact(int fact, int what) {
        if (fact < 0 || fact >= facts.size || what < 0 || what >= Facts.CELLS) {
            return NONE;
        }
        return facts.cell(fact, what);
    }

    public int ring(int one, int other, int k) {
        if (!areTwo(one, other) || k < NONE) {
            return NONE;
        }
        scale.build(facts, seasonNow, book.people);
        int steps = scale.stepsDown(one, other);
        if (steps == NONE || k > steps) {
            return NO_MORE;
        }
        return k == NONE ? steps + 1 : scale.onTheWay(one, other, k);
    }

    // ---- SAYINGS ----

    public int say(int speaker, int hearer, int theme) {
        if (!isSaying(speaker, hearer, theme)) {
            return NONE;
        }
        meetNow(speaker, hearer, theme);
        return saying.rightRow(book);
    }

    public long place(int part, int speaker, int hearer, int theme) {
        if (part < 0 || part >= book.parts || !isSaying(speaker, hearer, theme)) {
            return NO_VALUE;
        }
        meetNow(speaker, hearer, theme);
        return book.formulas.work(part, saying.names);
    }

    public int offence(int speaker, int hearer, int theme, int row) {
        if (!isSaying(speaker, hearer, theme) || !Rows.isRow(row, book.parts)) {
            return NONE;
        }
        meetNow(speaker, hearer, theme);
        return Rows.turned(saying.rightRow(book), row, book.parts);
    }

    public int amends(int speaker, int hearer, int theme, int row) {
        if (!isSaying(speaker, hearer, theme) || !Rows.isRow(row, book.parts)) {
            return NONE;
        }
        meetNow(speaker, hearer, theme);
        return Rows.moved(saying.rightRow(book), row, book.parts);
    }

    public int hall(int speaker, int hearers, int theme, int what) {
        if (!isHall(speaker, hearers, theme) || what < 0 || what > 3) {
            return NONE;
        }
        scale.build(facts, seasonNow, book.people);
        saying.hearHall(scale, book, seasonNow, speaker, hearers, theme);
        if (what < 2) {
            int row = saying.leastOffence(hearers, book.parts);
            return what == 1 ? row : saying.hallOffence(hearers, row, book.parts);
        }
        int clash = saying.clash(hearers);
        if (clash == NONE) {
            return NONE;
        }
        return what == 2 ? clash & 7 : clash >> 3;
    }

    // ---- CLAIMS ----

    public int claims(int speaker, int hearer, int theme, int row) {
        if (!isSaying(speaker, hearer, theme) || !Rows.isRow(row, book.parts)) {
            return NONE;
        }
        meetNow(speaker, hearer, theme);
        return saying.claimed(book, row);
    }

    public int hear(int speaker, int hearer, int theme, int season, int row) {
        if (!isSaying(speaker, hearer, theme) || !isSeason(season)) {
            return NONE;
        }
        if (!Rows.isRow(row, book.parts) || memory.size >= MOST_HEARD) {
            return NONE;
        }
        saying.meet(book, speaker, hearer, theme, season);
        return memory.addSaying(speaker, hearer, theme, saying.claimed(book, row));
    }

    public int unhear(int heard) {
        if (heard < 0 || heard >= memory.size || memory.size >= MOST_HEARD) {
            return NONE;
        }
        return memory.addStrike(heard);
    }

    public boolean known(int n) {
        if (n < NONE || n > memory.size) {
            return false;
        }
        memory.knownBy = n;
        return true;
    }

    public int possible() {
        orders.settle(book.people, memory);
        int count = 0;
        for (int k = 0; k < orders.size; k++) {
            if (orders.firstWrong(k) == NONE) {
                count++;
            }
        }
        return count;
    }

    public int sure(int one, int other) {
        if (!areTwo(one, other)) {
            return NONE;
        }
        orders.settle(book.people, memory);
        int met = 0;
        for (int k = 0; k < orders.size; k++) {
            if (orders.firstWrong(k) == NONE) {
                met |= 1 << orders.answer(k, one, other);
            }
        }
        if (met == 0) {
            return NO_MORE;
        }
        // More than one kind of answer among all orders leaves the two open.
        return Integer.bitCount(met) > 1 ? 3 : met >> 1;
    }

    public int cannot() {
        orders.settle(book.people, memory);
        int latest = NONE;
        for (int k = 0; k < orders.size; k++) {
            int wrong = orders.firstWrong(k);
            if (wrong == NONE) {
                return NONE;
            }
            latest = Math.max(latest, wrong);
        }
        return latest;
    }

    public int order(int k, int one, int other) {
        if (!areTwo(one, other) || k < 0) {
            return NONE;
        }
        orders.settle(book.people, memory);
        int ahead = k;
        for (int i = 0; i < orders.size; i++) {
            if (orders.firstWrong(i) == NONE) {
                if (ahead == 0) {
                    return orders.answer(i, one, other);
                }
                ahead--;
            }
        }
        return NONE;
    }

    public int letter(int row, int season, int k) {
        if (!isSeason(season) || k < NONE || !Rows.isRow(row, book.parts)) {
            return NONE;
        }
        scale.build(facts, season, book.people);
        int count = 0;
        for (int triple = 0; triple < ROOM * ROOM * ROOM; triple++) {
            int speaker = triple >> 6;
            int hearer = triple >> 3 & 7;
            int theme = triple & 7;
            if (isSaying(speaker, hearer, theme) && fits(speaker, hearer, theme, season, row)) {
                if (count == k) {
                    return speaker + ROOM * hearer + ROOM * ROOM * theme;
                }
                count++;
            }
        }
        return k == NONE ? count : NO_MORE;
    }

    public int silence(int speaker, int hearer, int theme, int what) {
        if (!isSaying(speaker, hearer, theme) || what < 0 || what > 1) {
            return NONE;
        }
        meetNow(speaker, hearer, theme);
        int left = saying.fewestLeft(book);
        if (left == NONE) {
            return NO_MORE;
        }
        return what == 0 ? Integer.bitCount(left) : left;
    }

    // ---- the clerk, the IMAGE, the counts ----

    public int rise(int clerk, int past, int k) {
        if (!areTwo(clerk, past) || k < NONE) {
            return NONE;
        }
        for (int season = 0; season < SEASONS; season++) {
            scale.build(facts, season, book.people);
            climb.learn(season, scale);
        }
        int steps = climb.search(book, clerk, past, seasonNow);
        if (steps == NONE || k >= steps) {
            return NO_MORE;
        }
        return k == NONE ? steps : climb.hearerOfStep(k, steps);
    }

    public int keep() {
        imageFacts.take(facts);
        imageSeason = seasonNow;
        imageKept = true;
        return facts.size;
    }

    public int back() {
        if (!imageKept) {
            return NONE;
        }
        facts.take(imageFacts);
        seasonNow = imageSeason;
        return facts.size;
    }

    public int count(int what) {
        switch (what) {
            case 0:
                return book.people;
            case 1:
                return facts.size;
            case 2:
                return book.parts;
            case 3:
                return book.formulas.knots;
            case 4:
                return seasonNow;
            case 5:
                return memory.size;
            case 6:
                return memory.knownCount();
            case 7:
                return facts.countLiving();
            default:
                return NONE;
        }
    }

    // ---- what several calls share ----

    private void layBytes(int number) {
        for (int shift = 24; shift >= 0; shift -= 8) {
            put(reader.tape, tapeLength, number >>> shift & 255);
            tapeLength++;
        }
    }

    private boolean isPerson(int person) {
        return person >= 0 && person < book.people;
    }

    private boolean areTwo(int one, int other) {
        return isPerson(one) && isPerson(other) && one != other;
    }

    private boolean isSaying(int speaker, int hearer, int theme) {
        return areTwo(speaker, hearer) && areTwo(speaker, theme);
    }

    private boolean isHall(int speaker, int hearers, int theme) {
        if (!areTwo(speaker, theme) || hearers <= 0) {
            return false;
        }
        return hearers >> book.people == 0 && (hearers >> speaker & 1) == 0;
    }

    private void meetNow(int speaker, int hearer, int theme) {
        scale.build(facts, seasonNow, book.people);
        saying.meet(book, speaker, hearer, theme, seasonNow);
        saying.standBy(scale, speaker, hearer, theme);
    }

    private boolean fits(int speaker, int hearer, int theme, int season, int row) {
        saying.meet(book, speaker, hearer, theme, season);
        saying.standBy(scale, speaker, hearer, theme);
        return saying.rightRow(book) == row;
    }

    private static boolean isSeason(int season) {
        return season >= 0 && season < SEASONS;
    }

    // Every row is read and written by these, so that no index can lie outside it.
    private static int at(int[] row, int index) {
        return index >= 0 && index < row.length ? row[index] : 0;
    }

    private static void put(int[] row, int index, int value) {
        if (index >= 0 && index < row.length) {
            row[index] = value;
        }
    }

    private static long longAt(long[] row, int index) {
        return index >= 0 && index < row.length ? row[index] : 0L;
    }

    private static void putLong(long[] row, int index, long value) {
        if (index >= 0 && index < row.length) {
            row[index] = value;
        }
    }

    /** Whether above goes on among three who stand to one another so (1 above, -1 below, 0 NEITHER). */
    private static boolean goesOn(int oneTwo, int twoThree, int oneThree) {
        return isChain(oneTwo, twoThree, oneThree)
            && isChain(oneThree, -twoThree, oneTwo)
            && isChain(-oneTwo, oneThree, twoThree);
    }

    private static boolean isChain(int first, int second, int whole) {
        return first == 0 || first != second || whole == first;
    }

    /** What a TEXT tells, but for its FACTS. */
    private static final class Book {
        final int[] personNames = new int[MOST_PEOPLE];
        final int[] ages = new int[MOST_PEOPLE];
        int people;
        final int[] partNames = new int[MOST_PARTS];
        int parts;
        final Formulas formulas = new Formulas();
        int firstSeason;
        boolean seasonTold;
        boolean riseTold;

        void clear() {
            people = 0;
            parts = 0;
            formulas.clear();
            firstSeason = 0;
            seasonTold = false;
            riseTold = false;
        }

        void take(Book other) {
            System.arraycopy(other.personNames, 0, personNames, 0, MOST_PEOPLE);
            System.arraycopy(other.ages, 0, ages, 0, MOST_PEOPLE);
            people = other.people;
            System.arraycopy(other.partNames, 0, partNames, 0, MOST_PARTS);
            parts = other.parts;
            formulas.take(other.formulas);
            firstSeason = other.firstSeason;
            seasonTold = other.seasonTold;
            riseTold = other.riseTold;
        }

        int personNamed(int letters) {
            return numberOf(personNames, people, letters);
        }

        int partNamed(int letters) {
            return numberOf(partNames, parts, letters);
        }

        private static int numberOf(int[] names, int count, int letters) {
            for (int i = 0; i < count; i++) {
                if (at(names, i) == letters) {
                    return i;
                }
            }
            return NONE;
        }

        void addPerson(int letters, int age) {
            put(personNames, people, letters);
            put(ages, people, age);
            people++;
        }

        void addPart(int letters) {
            put(partNames, parts, letters);
            parts++;
        }
    }

    /** The E of all PARTS and of rise, each laid down so that what a sign joins stands ahead of it. */
    private static final class Formulas {
        static final int RISE_FORMULA = MOST_PARTS;

        private final int[] code = new int[MOST_KNOTS];
        private final int[] begins = new int[MOST_PARTS + 1];
        private final int[] ends = new int[MOST_PARTS + 1];
        private final long[] stack = new long[MOST_KNOTS];
        private int size;
        // Counted as they are read: some signs are laid down later than that.
        int knots;

        void clear() {
            size = 0;
            knots = 0;
        }

        void take(Formulas other) {
            System.arraycopy(other.code, 0, code, 0, MOST_KNOTS);
            System.arraycopy(other.begins, 0, begins, 0, MOST_PARTS + 1);
            System.arraycopy(other.ends, 0, ends, 0, MOST_PARTS + 1);
            size = other.size;
            knots = other.knots;
        }

        void begin(int formula) {
            put(begins, formula, size);
        }

        void end(int formula) {
            put(ends, formula, size);
        }

        void add(int knot) {
            put(code, size, knot);
            size++;
        }

        /** The value by these NAMES; NO_VALUE with an ERROR. */
        long work(int formula, int[] names) {
            int end = at(ends, formula);
            int depth = 0;
            for (int i = at(begins, formula); i < end; i++) {
                int knot = at(code, i);
                if (knot < NAME_KNOT) {
                    putLong(stack, depth, knot);
                    depth++;
                } else if (knot < OR) {
                    putLong(stack, depth, at(names, knot - NAME_KNOT));
                    depth++;
                } else if (knot == NOT) {
                    putLong(stack, depth - 1, longAt(stack, depth - 1) == 0 ? 1 : 0);
                } else {
                    depth--;
                    long joined = joined(knot, longAt(stack, depth - 1), longAt(stack, depth));
                    if (joined == NO_VALUE) {
                        return NO_VALUE;
                    }
                    putLong(stack, depth - 1, joined);
                }
            }
            return longAt(stack, 0);
        }

        private static long joined(int sign, long left, long right) {
            switch (sign) {
                case OR:
                    return left != 0 || right != 0 ? 1 : 0;
                case AND:
                    return left != 0 && right != 0 ? 1 : 0;
                case LESS:
                    return left < right ? 1 : 0;
                case AT_MOST:
                    return left <= right ? 1 : 0;
                case LIKE:
                    return left == right ? 1 : 0;
                case UNLIKE:
                    return left != right ? 1 : 0;
                case AT_LEAST:
                    return left >= right ? 1 : 0;
                case MORE:
                    return left > right ? 1 : 0;
                case PLUS:
                    return within(left + right);
                case MINUS:
                    return within(left - right);
                case TIMES:
                    return product(left, right);
                case OVER:
                    return right == 0 ? NO_VALUE : left / right;
                default:
                    return NO_VALUE;
            }
        }

        private static long within(long value) {
            return value > MOST_VALUE || value < -MOST_VALUE ? NO_VALUE : value;
        }

        // Both sides are within the limit, but what they make can be beyond a long.
        private static long product(long left, long right) {
            long size = Math.abs(right);
            if (size != 0 && Math.abs(left) > MOST_VALUE / size) {
                return NO_VALUE;
            }
            return left * right;
        }
    }

    /** FACTS, five cells each: the two, 1 if level, the season, 1 if STRUCK. */
    private static final class Facts {
        static final int CELLS = 5;

        private final int[] cells = new int[MOST_FACTS * CELLS];
        int size;

        void clear() {
            size = 0;
        }

        void take(Facts other) {
            System.arraycopy(other.cells, 0, cells, 0, MOST_FACTS * CELLS);
            size = other.size;
        }

        int cell(int fact, int what) {
            return at(cells, fact * CELLS + what);
        }

        void add(int one, int other, int how, int season) {
            int start = size * CELLS;
            put(cells, start, one);
            put(cells, start + 1, other);
            put(cells, start + 2, how);
            put(cells, start + 3, season);
            put(cells, start + 4, 0);
            size++;
        }

        void dropLast() {
            size--;
        }

        boolean lives(int fact) {
            return fact >= 0 && fact < size && at(cells, fact * CELLS + 4) == 0;
        }

        void strikeOut(int fact) {
            put(cells, fact * CELLS + 4, 1);
        }

        boolean isLevel(int fact) {
            return at(cells, fact * CELLS + 2) == 1;
        }

        boolean isOf(int fact, int season) {
            int told = at(cells, fact * CELLS + 3);
            return told == NONE || told == season;
        }

        int countLiving() {
            int count = 0;
            for (int fact = 0; fact < size; fact++) {
                if (lives(fact)) {
                    count++;
                }
            }
            return count;
        }

        boolean tells(int one, int other, int how, int season) {
            for (int fact = 0; fact < size; fact++) {
                if (lives(fact) && cell(fact, 2) == how && cell(fact, 3) == season && isOfTwo(fact, one, other)) {
                    return true;
                }
            }
            return false;
        }

        private boolean isOfTwo(int fact, int one, int other) {
            if (cell(fact, 0) == one && cell(fact, 1) == other) {
                return true;
            }
            return isLevel(fact) && cell(fact, 0) == other && cell(fact, 1) == one;
        }
    }

    /** THE ORDER of one season, drawn from FACTS: for each person the bits of others. */
    private static final class Order {
        private final int[] level = new int[ROOM];
        private final int[] oneBelow = new int[ROOM];
        private final int[] below = new int[ROOM];
        private final int[] steps = new int[ROOM];
        private int people;

        void build(Facts facts, int season, int count) {
            people = count;
            for (int person = 0; person < ROOM; person++) {
                put(level, person, 1 << person);
                put(oneBelow, person, 0);
            }
            for (int fact = 0; fact < facts.size; fact++) {
                if (facts.lives(fact) && facts.isLevel(fact)) {
                    makeLevel(facts.cell(fact, 0), facts.cell(fact, 1));
                }
            }
            for (int fact = 0; fact < facts.size; fact++) {
                if (facts.lives(fact) && !facts.isLevel(fact) && facts.isOf(fact, season)) {
                    putAbove(facts.cell(fact, 0), facts.cell(fact, 1));
                }
            }
            goOn();
        }

        private void makeLevel(int one, int other) {
            int all = at(level, one) | at(level, other);
            for (int person = 0; person < people; person++) {
                if ((all >> person & 1) == 1) {
                    put(level, person, all);
                }
            }
        }

        private void putAbove(int one, int other) {
            int upper = at(level, one);
            for (int person = 0; person < people; person++) {
                if ((upper >> person & 1) == 1) {
                    put(oneBelow, person, at(oneBelow, person) | at(level, other));
                }
            }
        }

        private void goOn() {
            System.arraycopy(oneBelow, 0, below, 0, ROOM);
            for (int middle = 0; middle < people; middle++) {
                for (int person = 0; person < people; person++) {
                    if ((at(below, person) >> middle & 1) == 1) {
                        put(below, person, at(below, person) | at(below, middle));
                    }
                }
            }
        }

        boolean isAbove(int one, int other) {
            return (at(below, one) >> other & 1) == 1;
        }

        int between(int one, int other) {
            if (isAbove(one, other)) {
                return 1;
            }
            return isAbove(other, one) ? -1 : 0;
        }

        int belowOf(int person) {
            return at(below, person);
        }

        int levelWith(int person) {
            return at(level, person);
        }

        int countAbove(int person) {
            int count = 0;
            for (int other = 0; other < people; other++) {
                if (isAbove(other, person)) {
                    count++;
                }
            }
            return count;
        }

        boolean bendsInSomeSeason(Facts facts, int count) {
            for (int season = 0; season < SEASONS; season++) {
                build(facts, season, count);
                for (int person = 0; person < count; person++) {
                    if (isAbove(person, person)) {
                        return true;
                    }
                }
            }
            return false;
        }

        /** The fewest FACTS down from one to another; onTheWay builds on what this lays down. */
        int stepsDown(int one, int other) {
            for (int person = 0; person < ROOM; person++) {
                put(steps, person, person == other ? 0 : NONE);
            }
            for (int far = 1; far < people; far++) {
                for (int person = 0; person < people; person++) {
                    if (at(steps, person) == NONE && firstBelowAt(person, far - 1) != NONE) {
                        put(steps, person, far);
                    }
                }
            }
            return at(steps, one);
        }

        private int firstBelowAt(int person, int far) {
            for (int next = 0; next < people; next++) {
                if ((at(oneBelow, person) >> next & 1) == 1 && at(steps, next) == far) {
                    return next;
                }
            }
            return NONE;
        }

        int onTheWay(int one, int other, int k) {
            int person = one;
            for (int i = 0; i < k && person != other && person != NONE; i++) {
                person = firstBelowAt(person, at(steps, person) - 1);
            }
            return person;
        }
    }

    /** ROWS of words: three bits for each word, the first lowest. */
    private static final class Rows {
        static int wordAt(int row, int spot) {
            return row >> 3 * spot & 7;
        }

        static boolean isRow(int row, int parts) {
            if (row < 0 || row >> 3 * parts != 0) {
                return false;
            }
            int met = 0;
            for (int spot = 0; spot < parts; spot++) {
                met |= 1 << wordAt(row, spot);
            }
            return met == (1 << parts) - 1;
        }

        static int spotOf(int row, int part, int parts) {
            for (int spot = 0; spot < parts; spot++) {
                if (wordAt(row, spot) == part) {
                    return spot;
                }
            }
            return NONE;
        }

        /** How many two stand the other way round in the one than in the other. */
        static int turned(int right, int row, int parts) {
            int count = 0;
            for (int spot = 1; spot < parts; spot++) {
                int later = spotOf(right, wordAt(row, spot), parts);
                for (int ahead = 0; ahead < spot; ahead++) {
                    if (spotOf(right, wordAt(row, ahead), parts) > later) {
                        count++;
                    }
                }
            }
            return count;
        }

        /** The fewest words to be put elsewhere: all but the most that stand as they should. */
        static int moved(int right, int row, int parts) {
            int most = 0;
            for (int mask = 0; mask < 1 << parts; mask++) {
                if (left(row, mask, parts) == left(right, mask, parts)) {
                    most = Math.max(most, Integer.bitCount(mask));
                }
            }
            return parts - most;
        }

        /** The words of these PARTS alone, in their row. */
        static int left(int row, int mask, int parts) {
            int kept = 0;
            int size = 0;
            for (int spot = 0; spot < parts; spot++) {
                int part = wordAt(row, spot);
                if ((mask >> part & 1) == 1) {
                    kept |= part << 3 * size;
                    size++;
                }
            }
            return kept;
        }

        static int countAll(int parts) {
            int count = 1;
            for (int part = 2; part <= parts; part++) {
                count *= part;
            }
            return count;
        }

        /** The row with this number, if all go by the first word, then by the second, and so on. */
        static int numbered(int number, int parts) {
            int row = 0;
            int met = 0;
            int rest = number;
            for (int spot = 0; spot < parts; spot++) {
                int each = countAll(parts - 1 - spot);
                int part = freePart(met, each > 0 ? rest / each : 0);
                rest = each > 0 ? rest % each : 0;
                met |= 1 << part;
                row |= part << 3 * spot;
            }
            return row;
        }

        private static int freePart(int met, int ahead) {
            int passed = 0;
            for (int part = 0; part < MOST_PARTS; part++) {
                if ((met >> part & 1) == 0) {
                    if (passed == ahead) {
                        return part;
                    }
                    passed++;
                }
            }
            return 0;
        }
    }

    /** The NAMES of one saying, what is RIGHT by them, and what a row would claim. */
    private static final class Saying {
        final int[] names = new int[NAMES];
        private final long[] worths = new long[MOST_PARTS];
        private final int[] hallRows = new int[ROOM];

        /** All NAMES but those of THE ORDER. */
        void meet(Book book, int speaker, int hearer, int theme, int season) {
            int hearerAge = at(book.ages, hearer);
            put(names, ELDER, hearerAge > at(book.ages, speaker) ? 1 : 0);
            put(names, OLD, at(book.ages, theme) > hearerAge ? 1 : 0);
            put(names, TIME, season);
            put(names, SELF, theme == hearer ? 1 : 0);
            put(names, GAP, 0);
        }

        void standBy(Order scale, int speaker, int hearer, int theme) {
            put(names, HEARER, scale.between(hearer, speaker));
            put(names, THEME, scale.between(theme, speaker));
            put(names, BOTH, theme == hearer ? 0 : scale.between(theme, hearer));
        }

        /** Takes one of the 27 ways for the NAMES of THE ORDER; false: it can be in no ORDER. */
        boolean standByWay(int way) {
            int hearer = way / 9 - 1;
            int theme = way / 3 % 3 - 1;
            int both = way % 3 - 1;
            put(names, HEARER, hearer);
            put(names, THEME, theme);
            put(names, BOTH, both);
            if (at(names, SELF) == 1) {
                return theme == hearer && both == 0;
            }
            return goesOn(both, hearer, theme);
        }

        int rightRow(Book book) {
            for (int part = 0; part < book.parts; part++) {
                long worth = book.formulas.work(part, names);
                putLong(worths, part, worth == NO_VALUE ? 0 : worth);
            }
            int row = 0;
            for (int part = 0; part < book.parts; part++) {
                row |= part << 3 * countAhead(part, book.parts);
            }
            return row;
        }

        private int countAhead(int part, int parts) {
            long worth = longAt(worths, part);
            int count = 0;
            for (int other = 0; other < parts; other++) {
                long otherWorth = longAt(worths, other);
                if (otherWorth < worth || otherWorth == worth && other < part) {
                    count++;
                }
            }
            return count;
        }

        int claimed(Book book, int row) {
            int bits = 0;
            for (int way = 0; way < WAYS; way++) {
                if (standByWay(way) && rightRow(book) == row) {
                    bits |= 1 << way;
                }
            }
            return bits;
        }

        /** The PARTS left of what is RIGHT so that nobody is told lower; NONE: there are none such. */
        int fewestLeft(Book book) {
            int right = rightRow(book);
            int hearer = at(names, HEARER);
            int theme = at(names, THEME);
            int masks = 1 << book.parts;
            int unfit = 0;
            for (int way = 0; way < WAYS; way++) {
                boolean lower = way / 9 - 1 < hearer || way / 3 % 3 - 1 < theme;
                if (lower && standByWay(way)) {
                    unfit |= alike(right, rightRow(book), book.parts);
                }
            }
            int best = NONE;
            for (int mask = 0; mask < masks; mask++) {
                boolean fewer = best == NONE || Integer.bitCount(mask) < Integer.bitCount(best);
                if (fewer && (unfit >> mask & 1) == 0) {
                    best = mask;
                }
            }
            return best;
        }

        // A bit for each choice of PARTS, as five PARTS have just 32 choices.
        private static int alike(int right, int row, int parts) {
            int bits = 0;
            for (int mask = 0; mask < 1 << parts; mask++) {
                if (Rows.left(right, mask, parts) == Rows.left(row, mask, parts)) {
                    bits |= 1 << mask;
                }
            }
            return bits;
        }

        void hearHall(Order scale, Book book, int season, int speaker, int hearers, int theme) {
            for (int hearer = 0; hearer < book.people; hearer++) {
                if ((hearers >> hearer & 1) == 1) {
                    meet(book, speaker, hearer, theme, season);
                    standBy(scale, speaker, hearer, theme);
                    put(hallRows, hearer, rightRow(book));
                }
            }
        }

        int hallOffence(int hearers, int row, int parts) {
            int sum = 0;
            for (int hearer = 0; hearer < ROOM; hearer++) {
                if ((hearers >> hearer & 1) == 1) {
                    sum += Rows.turned(at(hallRows, hearer), row, parts);
                }
            }
            return sum;
        }

        int leastOffence(int hearers, int parts) {
            int count = Rows.countAll(parts);
            int best = Rows.numbered(0, parts);
            int least = hallOffence(hearers, best, parts);
            for (int number = 1; number < count; number++) {
                int row = Rows.numbered(number, parts);
                int sum = hallOffence(hearers, row, parts);
                if (sum < least) {
                    least = sum;
                    best = row;
                }
            }
            return best;
        }

        /** The first of the two, and eight times the second; NONE: all rows are alike. */
        int clash(int hearers) {
            for (int one = 0; one < ROOM; one++) {
                for (int other = one + 1; other < ROOM; other++) {
                    boolean bothHear = (hearers >> one & 1) == 1 && (hearers >> other & 1) == 1;
                    if (bothHear && at(hallRows, one) != at(hallRows, other)) {
                        return one + ROOM * other;
                    }
                }
            }
            return NONE;
        }
    }

    /** HEARD sayings and STRIKES. Of a saying its CLAIMS are kept: they never change while it is HEARD. */
    private static final class Memory {
        private final int[] speakers = new int[MOST_HEARD];
        private final int[] hearers = new int[MOST_HEARD];
        private final int[] themes = new int[MOST_HEARD];
        private final int[] claimed = new int[MOST_HEARD];
        private final int[] targets = new int[MOST_HEARD];
        int size;
        int knownBy = NONE;

        void clear() {
            size = 0;
            knownBy = NONE;
        }

        int addSaying(int speaker, int hearer, int theme, int bits) {
            put(speakers, size, speaker);
            put(hearers, size, hearer);
            put(themes, size, theme);
            put(claimed, size, bits);
            return addStrike(NONE);
        }

        int addStrike(int target) {
            put(targets, size, target);
            size++;
            return size - 1;
        }

        int knownCount() {
            return knownBy == NONE ? size : knownBy;
        }

        /** The bits of the KNOWN sayings. A STRIKE comes behind what it strikes: so the last one is asked first. */
        int knownSayings() {
            int struck = 0;
            int told = 0;
            for (int heard = knownCount() - 1; heard >= 0; heard--) {
                if ((struck >> heard & 1) == 0) {
                    int target = at(targets, heard);
                    if (target == NONE) {
                        told |= 1 << heard;
                    } else {
                        struck |= 1 << target;
                    }
                }
            }
            return told;
        }

        /** The first of the told sayings that isn't RIGHT in this order; NONE: all are. */
        int firstWrong(int code, int told) {
            for (int heard = 0; heard < size; heard++) {
                if ((told >> heard & 1) == 1 && (at(claimed, heard) >> wayOf(code, heard) & 1) == 0) {
                    return heard;
                }
            }
            return NONE;
        }

        private int wayOf(int code, int heard) {
            int speaker = at(speakers, heard);
            int hearer = at(hearers, heard);
            int theme = at(themes, heard);
            int both = Orders.between(code, theme, hearer);
            return 9 * (Orders.between(code, hearer, speaker) + 1)
                + 3 * (Orders.between(code, theme, speaker) + 1) + both + 1;
        }
    }

    /** All orders that people can have, each two bits a pair, the first pair highest: 0 NEITHER, 1 above, 2 below. */
    private static final class Orders {
        // So many can five people have.
        private static final int MOST_ORDERS = 4231;
        private static final int LAST_PAIR = 9;
        private static final int[] ONES = {0, 0, 0, 0, 1, 1, 1, 2, 2, 3};
        private static final int[] OTHERS = {1, 2, 3, 4, 2, 3, 4, 3, 4, 4};
        // Of each two the shift of their pair.
        private static final int[] SHIFTS = {
            0, 18, 16, 14, 12,
            18, 0, 10, 8, 6,
            16, 10, 0, 4, 2,
            14, 8, 4, 0, 0,
            12, 6, 2, 0, 0};
        // Far above what five people need.
        private static final int MOST_TRIES = 1000000;

        int size;
        private final int[] codes = new int[MOST_ORDERS];
        private int madeFor = NONE;
        // Of each order the first saying that isn't RIGHT in it: kept until other sayings are KNOWN.
        private final int[] wrongs = new int[MOST_ORDERS];
        private boolean settled;
        private int settledBy;

        void forget() {
            settled = false;
        }

        void settle(int people, Memory memory) {
            int told = memory.knownSayings();
            if (settled && told == settledBy) {
                return;
            }
            make(people);
            for (int k = 0; k < size; k++) {
                put(wrongs, k, memory.firstWrong(at(codes, k), told));
            }
            settled = true;
            settledBy = told;
        }

        int firstWrong(int k) {
            return at(wrongs, k);
        }

        /** 1: the first is above, 2: below, 0: NEITHER. */
        int answer(int k, int one, int other) {
            int standing = between(at(codes, k), one, other);
            return standing < 0 ? 2 : standing;
        }

        /** Goes through the choices of each pair, and on to the next pair only where above goes on so far. */
        private void make(int people) {
            if (people == madeFor) {
                return;
            }
            size = 0;
            int code = 0;
            int pair = 0;
            for (int i = 0; i < MOST_TRIES && pair >= 0; i++) {
                int shift = shiftOf(pair);
                int lastChoice = at(OTHERS, pair) < people ? 2 : 0;
                if ((code >> shift & 3) > lastChoice) {
                    code &= ~(3 << shift);
                    pair--;
                    code += 1 << shiftOf(pair);
                } else if (!goesOnSoFar(code, pair)) {
                    code += 1 << shift;
                } else if (pair < LAST_PAIR) {
                    pair++;
                } else {
                    put(codes, size, code);
                    size++;
                    code += 1 << shift;
                }
            }
            madeFor = people;
        }

        private static boolean goesOnSoFar(int code, int pair) {
            int one = at(ONES, pair);
            int other = at(OTHERS, pair);
            int standing = between(code, one, other);
            for (int ahead = 0; ahead < one; ahead++) {
                if (!goesOn(between(code, ahead, one), standing, between(code, ahead, other))) {
                    return false;
                }
            }
            return true;
        }

        private static int shiftOf(int pair) {
            return 2 * (LAST_PAIR - pair);
        }

        /** 1: the first is above, -1: below, 0: NEITHER, or both the same. */
        static int between(int code, int one, int other) {
            if (one == other) {
                return 0;
            }
            int choice = code >> at(SHIFTS, MOST_PEOPLE * one + other) & 3;
            // Told of the one who comes first among PEOPLE.
            int standing = choice == 2 ? -1 : choice;
            return one < other ? standing : -standing;
        }
    }

    /** The RISE of a clerk: all states of the court that the clerk can reach, the nearest first. */
    private static final class Climb {
        // Every way in which five can stand, in four seasons.
        private static final int MOST_STATES = 480;
        // A state is three bits for the place of each person, and the season above them.
        private static final int SEASON_SHIFT = 3 * MOST_PEOPLE;
        private static final int ALL_PLACES = (1 << SEASON_SHIFT) - 1;

        private final int[] below = new int[SEASONS * ROOM];
        private final int[] states = new int[MOST_STATES];
        private final int[] origins = new int[MOST_STATES];
        private final int[] hearers = new int[MOST_STATES];
        private final boolean[] met = new boolean[MOST_STATES];
        private final int[] names = new int[NAMES];
        private int size;
        private int goal;
        private int clerk;

        void learn(int season, Order scale) {
            for (int person = 0; person < ROOM; person++) {
                put(below, season * ROOM + person, scale.belowOf(person));
            }
        }

        /** The fewest STEPS; NONE: there is no way. */
        int search(Book book, int climber, int past, int season) {
            clerk = climber;
            size = 0;
            goal = NONE;
            for (int i = 0; i < met.length; i++) {
                met[i] = false;
            }
            add(firstState(season), NONE, NONE);
            for (int head = 0; head < size && head < MOST_STATES && goal == NONE; head++) {
                if (isAbove(at(states, head), clerk, past)) {
                    goal = head;
                } else {
                    spread(book, head);
                }
            }
            return goal == NONE ? NONE : countSteps();
        }

        private static int firstState(int season) {
            int state = season << SEASON_SHIFT;
            for (int person = 0; person < MOST_PEOPLE; person++) {
                state |= person << 3 * person;
            }
            return state;
        }

        private void spread(Book book, int head) {
            int state = at(states, head);
            for (int hearer = 0; hearer < book.people; hearer++) {
                if (hearer != clerk && mayChange(book, state, hearer)) {
                    add(changed(state, hearer), head, hearer);
                }
            }
        }

        private void add(int state, int origin, int hearer) {
            int number = numberOf(state);
            if (number < 0 || number >= met.length || met[number]) {
                return;
            }
            met[number] = true;
            put(states, size, state);
            put(origins, size, origin);
            put(hearers, size, hearer);
            size++;
        }

        private static int placeOf(int state, int person) {
            return state >> 3 * person & 7;
        }

        private static int seasonOf(int state) {
            return state >> SEASON_SHIFT;
        }

        private static int numberOf(int state) {
            int number = seasonOf(state);
            for (int person = 0; person < MOST_PEOPLE; person++) {
                int lower = 0;
                for (int other = person + 1; other < MOST_PEOPLE; other++) {
                    if (placeOf(state, other) < placeOf(state, person)) {
                        lower++;
                    }
                }
                number = number * (MOST_PEOPLE - person) + lower;
            }
            return number;
        }

        private int changed(int state, int hearer) {
            int turned = placeOf(state, clerk) ^ placeOf(state, hearer);
            int both = turned << 3 * clerk | turned << 3 * hearer;
            int places = (state & ALL_PLACES) ^ both;
            int season = (seasonOf(state) + 1) % SEASONS;
            return places | season << SEASON_SHIFT;
        }

        private boolean isAbove(int state, int one, int other) {
            int lower = at(below, seasonOf(state) * ROOM + placeOf(state, one));
            return (lower >> placeOf(state, other) & 1) == 1;
        }

        private boolean mayChange(Book book, int state, int hearer) {
            boolean hearerAbove = isAbove(state, hearer, clerk);
            if (!book.riseTold) {
                return hearerAbove;
            }
            boolean hearerBelow = isAbove(state, clerk, hearer);
            int standing = hearerAbove ? 1 : hearerBelow ? -1 : 0;
            put(names, HEARER, standing);
            put(names, THEME, standing);
            put(names, BOTH, 0);
            put(names, ELDER, at(book.ages, hearer) > at(book.ages, clerk) ? 1 : 0);
            put(names, OLD, 0);
            put(names, TIME, seasonOf(state));
            put(names, SELF, 1);
            put(names, GAP, gapTo(state, hearer, book.people));
            long worth = book.formulas.work(Formulas.RISE_FORMULA, names);
            return worth == NO_VALUE ? hearerAbove : worth != 0;
        }

        private int gapTo(int state, int hearer, int people) {
            int count = 0;
            for (int person = 0; person < people; person++) {
                if (isAbove(state, person, clerk) && !isAbove(state, person, hearer)) {
                    count++;
                }
            }
            return count;
        }

        private int countSteps() {
            int count = 0;
            int step = at(origins, goal);
            for (int i = 0; i < MOST_STATES && step != NONE; i++) {
                count++;
                step = at(origins, step);
            }
            return count;
        }

        int hearerOfStep(int k, int steps) {
            int step = goal;
            for (int i = steps - 1; i > k; i--) {
                step = at(origins, step);
            }
            return at(hearers, step);
        }
    }

    /** Reads a TEXT into a draft, up to its first FAULT. */
    private static final class Reader {
        private static final int END = 0;
        private static final int WORD = 1;
        private static final int NUMBER = 2;
        // A sign, or no TOKEN at all: its knot tells.
        private static final int OTHER = 3;
        // Above all that may be told; a longer number stays here.
        private static final int HUGE = 100000;
        private static final int COMPARISON = 4;

        final int[] tape = new int[MOST_BYTES];
        final Book draft = new Book();
        final Facts draftFacts = new Facts();
        int lines;
        int fault;
        int faultPlace = NONE;
        private final Order scale = new Order();
        private final int[] language = new int[WORDS];
        // Signs, not, and, or, '(' that wait for what stands behind them.
        private final int[] waiting = new int[MOST_KNOTS + MOST_OPEN];
        private int waitingSize;
        private int open;
        private boolean operandDue;
        private int length;
        private int cursor;
        private int place;
        private int kind;
        private int value;
        private int knot;

        Reader() {
            for (int word = 0; word < WORDS; word++) {
                put(language, word, lettersOf(word));
            }
        }

        private static int lettersOf(int word) {
            int letters = 0;
            for (int i = 0; i < WORD_LETTERS; i++) {
                int index = WORD_LETTERS * word + i;
                char sign = index >= 0 && index < LANGUAGE.length() ? LANGUAGE.charAt(index) : ' ';
                letters = letters << 5 | (sign == ' ' ? 0 : sign - 'a' + 1);
            }
            return letters;
        }

        void open(int bytes) {
            draft.clear();
            draftFacts.clear();
            lines = 0;
            fault = 0;
            faultPlace = NONE;
            length = bytes;
            cursor = 0;
            next();
        }

        boolean isGoing() {
            return kind != END && fault == 0;
        }

        void readLine() {
            boolean told = false;
            switch (kind == WORD ? languageWord(value) : NONE) {
                case PERSON:
                    told = readPerson();
                    break;
                case ABOVE:
                    told = readFact(0);
                    break;
                case LEVEL:
                    told = readFact(1);
                    break;
                case PART:
                    told = readPartName() && readFormula(draft.parts - 1);
                    break;
                case SEASON:
                    told = readSeason();
                    break;
                case RISE:
                    told = readRiseWord() && readFormula(Formulas.RISE_FORMULA);
                    break;
                default:
                    fail(TOO_STRANGE);
            }
            if (told) {
                endLine();
            }
        }

        private void endLine() {
            if (knot != LINE_END) {
                fail(TOO_STRANGE);
                return;
            }
            lines++;
            next();
        }

        private boolean readPerson() {
            if (draft.people >= MOST_PEOPLE) {
                return fail(TOO_MUCH);
            }
            next();
            if (!isName()) {
                return fail(TOO_STRANGE);
            }
            if (draft.personNamed(value) != NONE) {
                return fail(TOLD_ALREADY);
            }
            int letters = value;
            next();
            int age = readNumber(MOST_AGE);
            if (age == NONE) {
                return false;
            }
            draft.addPerson(letters, age);
            return true;
        }

        private boolean readFact(int how) {
            if (draftFacts.size >= MOST_TOLD_FACTS) {
                return fail(TOO_MUCH);
            }
            next();
            int one = personHere();
            if (one == NONE) {
                return false;
            }
            next();
            int other = personHere();
            if (other == NONE) {
                return false;
            }
            if (one == other) {
                return fail(ABOVE_ITSELF);
            }
            int otherPlace = place;
            next();
            int season = NONE;
            if (how == 0 && isWord(IN)) {
                next();
                season = readNumber(SEASONS - 1);
                if (season == NONE) {
                    return false;
                }
            }
            if (draftFacts.tells(one, other, how, season)) {
                return failAt(TOLD_ALREADY, otherPlace);
            }
            draftFacts.add(one, other, how, season);
            return !scale.bendsInSomeSeason(draftFacts, draft.people) || failAt(ABOVE_ITSELF, otherPlace);
        }

        private boolean readPartName() {
            if (draft.parts >= MOST_PARTS) {
                return fail(TOO_MUCH);
            }
            next();
            if (!isName()) {
                return fail(TOO_STRANGE);
            }
            if (draft.partNamed(value) != NONE) {
                return fail(TOLD_ALREADY);
            }
            draft.addPart(value);
            next();
            return true;
        }

        private boolean readSeason() {
            if (draft.seasonTold) {
                return fail(TOLD_ALREADY);
            }
            draft.seasonTold = true;
            next();
            int season = readNumber(SEASONS - 1);
            if (season == NONE) {
                return false;
            }
            draft.firstSeason = season;
            return true;
        }

        private boolean readRiseWord() {
            if (draft.riseTold) {
                return fail(TOLD_ALREADY);
            }
            draft.riseTold = true;
            next();
            return true;
        }

        private int readNumber(int most) {
            if (kind != NUMBER) {
                fail(TOO_STRANGE);
                return NONE;
            }
            if (value > most) {
                fail(TOO_MUCH);
                return NONE;
            }
            int number = value;
            next();
            return number;
        }

        private int personHere() {
            if (!isName()) {
                fail(TOO_STRANGE);
                return NONE;
            }
            int person = draft.personNamed(value);
            if (person == NONE) {
                fail(NOT_TOLD);
            }
            return person;
        }

        private boolean isName() {
            return kind == WORD && languageWord(value) == NONE;
        }

        private boolean isWord(int word) {
            return kind == WORD && languageWord(value) == word;
        }

        private boolean fail(int number) {
            fault = number;
            faultPlace = place;
            return false;
        }

        private boolean failAt(int number, int where) {
            fault = number;
            faultPlace = where;
            return false;
        }

        // ---- an E: signs wait until those behind them that bind closer are laid down ----

        private boolean readFormula(int formula) {
            waitingSize = 0;
            open = 0;
            operandDue = true;
            draft.formulas.begin(formula);
            boolean going = true;
            for (int token = 0; token <= length && going; token++) {
                going = operandDue ? takeOperand() : takeSign();
                if (going) {
                    next();
                }
            }
            if (fault != 0) {
                return false;
            }
            layWaiting(1);
            draft.formulas.end(formula);
            return true;
        }

        private boolean takeOperand() {
            if (kind == NUMBER && value > MOST_NUMBER) {
                return fail(TOO_MUCH);
            }
            if (kind == NUMBER) {
                return takeLeaf(value);
            }
            if (knot >= NAME_KNOT && knot < NAME_KNOT + NAMES) {
                return takeLeaf(knot);
            }
            if (knot == OPEN) {
                return takeOpen();
            }
            if (knot == NOT && bindingOf(latestWaiting()) < COMPARISON) {
                return countKnot() && letWait(knot);
            }
            return fail(TOO_STRANGE);
        }

        private boolean takeLeaf(int leaf) {
            if (!countKnot()) {
                return false;
            }
            draft.formulas.add(leaf);
            operandDue = false;
            return true;
        }

        /** False, without a FAULT, where the E ends. */
        private boolean takeSign() {
            if (knot == CLOSE && open > 0) {
                layWaiting(1);
                waitingSize--;
                open--;
                return true;
            }
            int binding = bindingOf(knot);
            if (binding == 0 || knot == NOT) {
                return open > 0 && fail(TOO_STRANGE);
            }
            boolean compares = binding == COMPARISON;
            layWaiting(compares ? binding + 1 : binding);
            if (compares && bindingOf(latestWaiting()) == COMPARISON) {
                return fail(TOO_STRANGE);
            }
            operandDue = true;
            return countKnot() && letWait(knot);
        }

        private boolean takeOpen() {
            if (open >= MOST_OPEN) {
                return fail(TOO_MUCH);
            }
            open++;
            return letWait(OPEN);
        }

        private boolean countKnot() {
            if (draft.formulas.knots >= MOST_KNOTS) {
                return fail(TOO_MUCH);
            }
            draft.formulas.knots++;
            return true;
        }

        private boolean letWait(int sign) {
            put(waiting, waitingSize, sign);
            waitingSize++;
            return true;
        }

        private int latestWaiting() {
            return at(waiting, waitingSize - 1);
        }

        private void layWaiting(int least) {
            while (waitingSize > 0 && bindingOf(latestWaiting()) >= least) {
                draft.formulas.add(latestWaiting());
                waitingSize--;
            }
        }

        private static int bindingOf(int sign) {
            switch (sign) {
                case OR:
                    return 1;
                case AND:
                    return 2;
                case NOT:
                    return 3;
                case LESS:
                case AT_MOST:
                case LIKE:
                case UNLIKE:
                case AT_LEAST:
                case MORE:
                    return COMPARISON;
                case PLUS:
                case MINUS:
                    return 5;
                case TIMES:
                case OVER:
                    return 6;
                default:
                    return 0;
            }
        }

        // ---- TOKENS ----

        private void next() {
            while (cursor < length && isBlank(at(tape, cursor))) {
                cursor++;
            }
            place = cursor;
            value = 0;
            knot = NONE;
            if (cursor >= length) {
                kind = END;
                return;
            }
            int sign = at(tape, cursor);
            if (isLetter(sign)) {
                scanWord();
            } else if (isDigit(sign)) {
                scanNumber();
            } else {
                scanSign(sign);
            }
        }

        private void scanWord() {
            int letters = 0;
            while (cursor < length && isLetter(at(tape, cursor))) {
                letters = letters << 5 | at(tape, cursor) - 'a' + 1;
                cursor++;
            }
            int count = cursor - place;
            if (count > WORD_LETTERS) {
                kind = OTHER;
                return;
            }
            kind = WORD;
            value = letters << 5 * (WORD_LETTERS - count);
            knot = knotOfWord(languageWord(value));
        }

        private static int knotOfWord(int word) {
            switch (word) {
                case OR_WORD:
                    return OR;
                case AND_WORD:
                    return AND;
                case NOT_WORD:
                    return NOT;
                default:
                    return word >= FIRST_NAME_WORD ? NAME_KNOT + word - FIRST_NAME_WORD : NONE;
            }
        }

        private int languageWord(int letters) {
            for (int word = 0; word < language.length; word++) {
                if (language[word] == letters) {
                    return word;
                }
            }
            return NONE;
        }

        private void scanNumber() {
            while (cursor < length && isDigit(at(tape, cursor))) {
                value = Math.min(value * 10 + at(tape, cursor) - '0', HUGE);
                cursor++;
            }
            kind = NUMBER;
        }

        private void scanSign(int sign) {
            cursor++;
            knot = knotOfSign(sign);
            int behind = cursor < length ? at(tape, cursor) : 0;
            if (sign == '<' && behind == '=') {
                knot = AT_MOST;
                cursor++;
            } else if (sign == '<' && behind == '>') {
                knot = UNLIKE;
                cursor++;
            } else if (sign == '>' && behind == '=') {
                knot = AT_LEAST;
                cursor++;
            }
            kind = OTHER;
        }

        private static int knotOfSign(int sign) {
            switch (sign) {
                case '<':
                    return LESS;
                case '=':
                    return LIKE;
                case '>':
                    return MORE;
                case '+':
                    return PLUS;
                case '-':
                    return MINUS;
                case '*':
                    return TIMES;
                case '/':
                    return OVER;
                case '(':
                    return OPEN;
                case ')':
                    return CLOSE;
                case ';':
                    return LINE_END;
                default:
                    return NONE;
            }
        }

        private static boolean isBlank(int sign) {
            return sign == 10 || sign == 32;
        }

        private static boolean isLetter(int sign) {
            return sign >= 'a' && sign <= 'z';
        }

        private static boolean isDigit(int sign) {
            return sign >= '0' && sign <= '9';
        }
    }
}
