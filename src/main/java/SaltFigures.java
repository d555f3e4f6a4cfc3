import java.util.Arrays;

/** The salt that was thrown over the left shoulder in one port, and the figures that it has become. */
public final class SaltFigures {
    public static final int NONE = -1;

    private static final int PERSONS = 16;
    private static final int SEATS = 16;
    private static final int MOST_SALT = 9999;
    private static final int MOST_BELIEF = 9;
    private static final int MOST_WET = 9;
    private static final int LAST_DAY = 9999;
    private static final int MOST_DAYS = 60;
    private static final int SURE = 1000;
    private static final int THOUGHT_SPILLS = 500;
    private static final int MOST_THROWN = 999;
    private static final int KEPT = 6;
    private static final int MODULUS = 1000000007;
    private static final int NO_POINTS = NONE - 999;
    private static final int NO_DATE = NONE - 999999;

    // The fields of a PERSON bear the numbers that of() gives them.
    private static final int BELIEF = 0;
    private static final int SALT = 1;
    private static final int SPILT = 2;
    private static final int THROWN = 3;
    private static final int LICKED = 4;
    private static final int ALIVE = 5;
    private static final int SEAT = 6;
    private static final int FIELDS = 7;

    private static final int BOOK_LINES = 150;
    private static final int BOOK_COLUMNS = 4;
    private static final int THREW = 0;
    private static final int RAN = 1;
    private static final int WAS_LICKED = 2;
    private static final int INHERITED = 3;
    private static final int WAS_SWEPT = 4;
    private static final int DIED = 5;

    private static final int TAPE = 400;
    private static final int TEXT_LINES = 16;
    private static final int COLUMNS = 4;
    private static final int THE_LAW = 0;
    private static final int TABLE = 1;
    private static final int WEATHER = 2;
    private static final int HEIRS = 3;
    private static final int OPEN_AT_MOST = 8;

    // A keyword's token is its place in KEYWORDS from 1 on; a sign's token is its own character (40 and more).
    private static final String KEYWORDS = "spills throws runs when or and not belief salt spilt thrown licked seat wet beside heirs day person on cattle feast scold die heir ";
    private static final String SIGNS = ";+-*/()<=>";
    private static final int THE_END = 0;
    private static final int SPILLS = 1;
    private static final int THROWS = 2;
    private static final int RUNS = 3;
    private static final int WHEN = 4;
    private static final int OR = 5;
    private static final int AND = 6;
    private static final int NOT = 7;
    private static final int FIRST_WORD = 8;
    private static final int SEAT_WORD = 13;
    private static final int WET_WORD = 14;
    private static final int PERSON_WORD = 18;
    private static final int ON = 19;
    private static final int CATTLE = 20;
    private static final int FEAST = 21;
    private static final int SCOLD = 22;
    private static final int DIE = 23;
    private static final int HEIR = 24;
    private static final int NUMBER = 30;
    private static final int NOTHING = 31;

    // The words of THE LAW in their order in KEYWORDS; the first five are fields of a PERSON too.
    private static final int WORDS = 10;
    private static final int OWN_WORDS = 5;
    private static final int SEAT_IN_WORDS = 5;
    private static final int WET_IN_WORDS = 6;
    private static final int BESIDE_IN_WORDS = 7;
    private static final int HEIRS_IN_WORDS = 8;
    private static final int DAY_IN_WORDS = 9;

    private static final int[] MONTHS = {31, 28, 31, 30, 31, 30, 31, 31, 30, 31, 30, 31};

    private final Port port;
    private Port picture;
    private final Days course;
    private final Figures thought;
    private final Thinker thinker;
    private final Reader reader;
    private final Figures[] kept;
    private int nextKept;
    private int undoable;

    public SaltFigures() {
        port = new Port();
        course = new Days(port);
        thought = new Figures(true);
        thinker = new Thinker(port.told);
        reader = new Reader();
        kept = new Figures[KEPT];
    }

    public int state(int v) {
        int was = port.figures.state;
        port.figures.state = v;
        forget();
        return was;
    }

    public int person(int belief) {
        Figures f = port.figures;
        if (!within(belief, 0, MOST_BELIEF) || f.count >= PERSONS) {
            return NONE;
        }
        forget();
        return f.come(belief);
    }

    public boolean set(int what, int who, int v) {
        Figures f = port.figures;
        if (what == 2 && within(v, 0, MOST_WET)) {
            f.wet = v;
        } else if (what == 0 && f.isAlive(who) && within(v, 0, MOST_BELIEF)) {
            f.put(who, BELIEF, v);
        } else if (what == 1 && f.isAlive(who) && within(v, 0, MOST_SALT)) {
            f.put(who, SALT, v);
        } else {
            return false;
        }
        forget();
        return true;
    }

    public boolean act(int what, int who, int v) {
        Figures f = port.figures;
        if (!canAct(what, who, v)) {
            return false;
        }
        keep();
        switch (what) {
            case 0:
                course.spill(f, who);
                break;
            case 1:
                f.sit(who, v);
                break;
            case 2:
                f.rise(who);
                break;
            case 3:
                course.sweep(f, who);
                break;
            default:
                course.die(f, who);
                break;
        }
        return true;
    }

    private boolean canAct(int what, int who, int v) {
        Figures f = port.figures;
        if (!f.isAlive(who)) {
            return false;
        }
        switch (what) {
            case 0:
            case 4:
                return true;
            case 1:
                return within(v, 0, SEATS - 1) && f.get(who, SEAT) == NONE && f.holder(v) == NONE;
            case 2:
                return f.get(who, SEAT) != NONE;
            case 3:
                return f.get(who, SALT) > 0;
            default:
                return false;
        }
    }

    public int days(int n) {
        Figures f = port.figures;
        if (!within(n, 1, MOST_DAYS) || f.day + n > LAST_DAY) {
            return NONE;
        }
        int spilt = 0;
        for (int i = 0; i < n; i++) {
            keep();
            spilt += course.goBy(f);
        }
        return spilt;
    }

    public int feed(int a, int b, int c, int d, int e) {
        if (!reader.hasRoom()) {
            return NONE;
        }
        reader.append(a);
        reader.append(b);
        reader.append(c);
        reader.append(d);
        return reader.append(e);
    }

    public boolean end(int n) {
        return reader.cut(n);
    }

    public int text(int k) {
        reader.open(port.figures.count);
        switch (k) {
            case THE_LAW:
                reader.readLaw();
                break;
            case TABLE:
                reader.readTable();
                break;
            case WEATHER:
                reader.readWeather();
                break;
            case HEIRS:
                reader.readHeirs();
                break;
            default:
                return NONE;
        }
        if (reader.fault != 0) {
            return NONE;
        }
        accept(k);
        return reader.lines;
    }

    private void accept(int k) {
        port.texts.take(k, reader);
        if (k == TABLE) {
            port.figures.seatAll(reader.rows, reader.lines);
        }
        if (k == TABLE || k == WEATHER) {
            forget();
        }
    }

    public int fault(int what) {
        return what == 0 ? reader.fault : what == 1 ? reader.place : NONE;
    }

    public int of(int person, int what) {
        Figures f = port.figures;
        if (!f.isPerson(person) || !within(what, 0, 10)) {
            return NONE - 1;
        }
        if (what < FIELDS) {
            return f.get(person, what);
        }
        return what == 10 ? port.texts.heirOf(person) : course.asks(f, person, what - FIELDS + SPILLS);
    }

    public int book(int i, int what) {
        return port.bookAt(i, what);
    }

    public int goes(int n, int what) {
        if (!within(n, 1, MOST_DAYS) || !within(what, 0, 3)) {
            return NONE;
        }
        thought.copyFrom(port.figures);
        for (int i = 0; i < n; i++) {
            course.goBy(thought);
        }
        switch (what) {
            case 0:
                return thought.total(SALT);
            case 1:
                return thought.run;
            case 2:
                return thought.total(SPILT);
            default:
                return thought.total(LICKED);
        }
    }

    public int high(int person, int v) {
        if (!port.figures.isAlive(person) || !within(v, 1, MOST_SALT)) {
            return NONE;
        }
        thought.copyFrom(port.figures);
        for (int day = 0; day <= MOST_DAYS && thought.isAlive(person); day++) {
            if (thought.get(person, SALT) >= v) {
                return day;
            }
            course.goBy(thought);
        }
        return NONE;
    }

    public int door(int what) {
        int best = 0;
        int first = NONE;
        int last = NONE;
        for (int from = 0; from < SEATS; from++) {
            int least = MOST_SALT;
            for (int to = from; to < SEATS; to++) {
                least = Math.min(least, port.figures.heightAt(to));
                int product = least * (to - from + 1);
                // Only a greater one replaces, so that of several the first found stays.
                if (product > best) {
                    best = product;
                    first = from;
                    last = to;
                }
            }
        }
        return what == 0 ? best : what == 1 ? first : what == 2 ? last : NONE;
    }

    public boolean date(int y, int m, int d) {
        if (!Sums.isDate(y, m, d)) {
            return false;
        }
        port.told.since = Sums.dayNumber(y, m, d);
        return true;
    }

    public int week(int y, int m, int d, int what) {
        if (!Sums.isDate(y, m, d) || !within(what, 0, 2)) {
            return NO_DATE;
        }
        int number = Sums.dayNumber(y, m, d);
        if (what == 0) {
            return Sums.weekday(number);
        }
        return what == 1 ? Sums.fridays(y) : number - port.told.since;
    }

    public int point(int x, int y) {
        if (x == NO_POINTS) {
            port.told.xs.clear();
            return port.told.ys.clear();
        }
        return thinker.addPoint(x, y);
    }

    public int side(int a, int b, int p) {
        Row xs = port.told.xs;
        if (!xs.has(a) || !xs.has(b) || !xs.has(p) || a == b) {
            return NONE - 1;
        }
        return Integer.signum(thinker.turn(a, b, p));
    }

    public int hull(int what) {
        return what == 0 ? thinker.outline(false) : what == 1 ? thinker.outline(true) : NONE;
    }

    public int turned(int n, int what) {
        return within(n, 0, 99999) && within(what, 0, 1) ? Sums.turnAbout(n, what == 1) : NONE;
    }

    public int weight(int v) {
        return port.told.weights.tell(v);
    }

    public int weighs(int m) {
        if (m == NONE) {
            return thinker.balancedNumbers();
        }
        return within(m, 0, Thinker.HEAVIEST) ? thinker.weighings(m) : NONE;
    }

    public int coins(int n, int h) {
        return within(n, 1, 100) && within(h, 0, 1) ? Sums.fewestWeighings(n, h == 1) : NONE;
    }

    public int slabs(int n) {
        return within(n, 0, 40) ? Sums.floors(n) : NONE;
    }

    public int row(int which, int v) {
        return which == 0 ? port.told.first.tell(v) : which == 1 ? port.told.second.tell(v) : NONE;
    }

    public int shadow(int what) {
        if (!within(what, 0, 1)) {
            return NONE;
        }
        int ways = thinker.shadowWays();
        return what == 0 ? Math.min(ways, 1) : ways;
    }

    public int drip(int v) {
        return port.told.periods.tell(v);
    }

    public int drips(int n) {
        if (n == NONE) {
            return thinker.allAtOnce();
        }
        return within(n, 0, 10000) ? thinker.dryMinutes(n) : NONE;
    }

    public int told(int what) {
        if (within(what, 200, 210)) {
            return thinker.toldAgain(what - 200);
        }
        int count = thinker.tellFirst();
        if (what == 0) {
            return count;
        }
        return within(what, 100, 99 + count) ? thinker.tellingAt(what - 100) : NONE;
    }

    public int switches(int v, int what) {
        if (!within(v, 0, 1023) || !within(what, 0, 1)) {
            return NONE;
        }
        return what == 0 ? v ^ (v >> 1) : Sums.numberOfSight(v);
    }

    public int stage(int v) {
        Row stages = port.told.stages;
        return stages.holds(v) ? stages.size : stages.tell(v);
    }

    public int voyage(int l, int what) {
        if (!within(l, 1, Thinker.LONGEST) || !within(what, 0, 1)) {
            return NONE;
        }
        return what == 0 ? thinker.voyageRows(l) : thinker.fewestStages(l);
    }

    public int post(int place, int height) {
        if (place == NONE) {
            port.told.places.clear();
            return port.told.heights.clear();
        }
        return thinker.addPost(place, height);
    }

    public int light(int h, int i, int what) {
        if (!within(h, 1, 60) || !within(what, 0, 2)) {
            return NONE - 1;
        }
        if (what == 2) {
            return thinker.litPosts(h);
        }
        return port.told.places.has(i) ? thinker.rayEnd(h, i, what == 1) : NONE - 1;
    }

    public int heap(int v) {
        return port.told.heap.tell(v);
    }

    public int heaped(int what) {
        int falls = thinker.settle();
        if (what == 0) {
            return falls;
        }
        return within(what, 1, port.told.heap.size) ? thinker.liesAt(what - 1) : NONE;
    }

    public int game(int n, int what) {
        if (!within(n, 1, 300) || !within(what, 0, 2)) {
            return NONE;
        }
        // Of an odd number every divisor is odd and leaves an even one; of an even one taking 1 leaves an odd one.
        boolean wins = n % 2 == 0;
        if (what == 0) {
            return wins ? 1 : 0;
        }
        return what == 2 ? n / 2 : wins ? 1 : NONE;
    }

    public boolean undo() {
        if (undoable <= 0) {
            return false;
        }
        nextKept = (nextKept + KEPT - 1) % KEPT;
        undoable--;
        port.figures.copyFrom(keptAt(nextKept));
        return true;
    }

    public boolean image(boolean taken) {
        if (taken) {
            if (picture == null) {
                picture = new Port();
            }
            picture.copyFrom(port);
            return true;
        }
        if (picture == null) {
            return false;
        }
        port.copyFrom(picture);
        forget();
        return true;
    }

    public int look(int what) {
        Figures f = port.figures;
        if (within(what, 20, 19 + SEATS)) {
            return f.holder(what - 20);
        }
        switch (what) {
            case 0:
                return f.count;
            case 1:
                return f.aliveSet();
            case 2:
                return f.wet;
            case 3:
                return f.run;
            case 4:
                return f.swept;
            case 5:
                return f.day;
            case 6:
                return f.tallest();
            case 7:
                return f.lines;
            case 8:
                return f.state;
            case 9:
            case 10:
            case 11:
            case 12:
                return port.texts.linesOf(what - 9);
            case 13:
                return undoable;
            default:
                return NONE - 99999;
        }
    }

    private void keep() {
        keptAt(nextKept).copyFrom(port.figures);
        nextKept = (nextKept + 1) % KEPT;
        undoable = Math.min(undoable + 1, KEPT);
    }

    /** Made when first wanted, since most objects keep little. */
    private Figures keptAt(int i) {
        if (i < 0 || i >= kept.length) {
            return port.figures;
        }
        if (kept[i] == null) {
            kept[i] = new Figures(false);
        }
        return kept[i];
    }

    private void forget() {
        undoable = 0;
    }

    private static boolean within(int v, int least, int most) {
        return v >= least && v <= most;
    }

    /** PERSONS and numbers: just what a DAY changes, so that UNDO and thought copy nothing else. */
    private static final class Figures {
        final boolean thinking;
        private final int[] persons = new int[PERSONS * FIELDS];
        private final int[] holders = new int[SEATS];
        int count;
        int wet;
        int run;
        int swept;
        int day;
        int state;
        int lines;

        Figures(boolean thinking) {
            this.thinking = thinking;
            Arrays.fill(holders, NONE);
        }

        void copyFrom(Figures other) {
            System.arraycopy(other.persons, 0, persons, 0, PERSONS * FIELDS);
            System.arraycopy(other.holders, 0, holders, 0, SEATS);
            count = other.count;
            wet = other.wet;
            run = other.run;
            swept = other.swept;
            day = other.day;
            state = other.state;
            lines = other.lines;
        }

        int come(int belief) {
            if (count >= PERSONS) {
                return NONE;
            }
            int person = count;
            count++;
            put(person, BELIEF, belief);
            put(person, ALIVE, 1);
            put(person, SEAT, NONE);
            return person;
        }

        boolean isPerson(int person) {
            return person >= 0 && person < count;
        }

        boolean isAlive(int person) {
            return get(person, ALIVE) == 1;
        }

        int get(int person, int field) {
            boolean there = person >= 0 && person < count && field >= 0 && field < FIELDS;
            return there ? persons[person * FIELDS + field] : NONE;
        }

        void put(int person, int field, int v) {
            if (person >= 0 && person < count && field >= 0 && field < FIELDS) {
                persons[person * FIELDS + field] = v;
            }
        }

        void add(int person, int field, int more) {
            put(person, field, get(person, field) + more);
        }

        int total(int field) {
            int sum = 0;
            for (int person = 0; person < count; person++) {
                sum += get(person, field);
            }
            return sum;
        }

        int aliveSet() {
            int set = 0;
            for (int person = 0; person < count; person++) {
                set |= get(person, ALIVE) << person;
            }
            return set;
        }

        int holder(int seat) {
            return seat >= 0 && seat < SEATS ? holders[seat] : NONE;
        }

        int heightAt(int seat) {
            int person = holder(seat);
            return person == NONE ? 0 : get(person, SALT) / 100;
        }

        void sit(int person, int seat) {
            if (seat >= 0 && seat < SEATS) {
                holders[seat] = person;
                put(person, SEAT, seat);
            }
        }

        void rise(int person) {
            int seat = get(person, SEAT);
            if (seat >= 0 && seat < SEATS) {
                holders[seat] = NONE;
                put(person, SEAT, NONE);
            }
        }

        void seatAll(int[] rows, int lines) {
            for (int person = 0; person < count; person++) {
                rise(person);
            }
            for (int i = 0; i < lines && i * COLUMNS + 1 < rows.length; i++) {
                int seat = rows[i * COLUMNS];
                int person = rows[i * COLUMNS + 1];
                if (isAlive(person)) {
                    rise(holder(seat));
                    rise(person);
                    sit(person, seat);
                }
            }
        }

        /** By how much his SALT is more; what finds no room is SWEPT. */
        int pour(int person, int amount) {
            int more = Math.min(amount, MOST_SALT - get(person, SALT));
            add(person, SALT, more);
            swept += amount - more;
            return more;
        }

        /** Who is not ALIVE has no SALT, so nobody need be left out. */
        int tallest() {
            int best = NONE;
            int most = 0;
            for (int person = 0; person < count; person++) {
                if (get(person, SALT) > most) {
                    best = person;
                    most = get(person, SALT);
                }
            }
            return best;
        }

        /** The greatest SALT that is less than that. */
        int mostBelow(int salt) {
            int most = 0;
            for (int person = 0; person < count; person++) {
                int his = get(person, SALT);
                if (his < salt && his > most) {
                    most = his;
                }
            }
            return most;
        }

        int howMany(int field, int v) {
            int many = 0;
            for (int person = 0; person < count; person++) {
                if (get(person, field) == v) {
                    many++;
                }
            }
            return many;
        }

        int draw(int m) {
            state = 1664525 * state + 1013904223;
            return m > 0 ? (state >>> 8) % m : 0;
        }
    }

    /** THE LAW as lines of code for a stack: each entry an operation and a number. */
    private static final class Law {
        private static final int NUMBERS = 10000;
        private static final int DEEPEST = 32;
        int lines;
        private int size;
        final int[] word = new int[TEXT_LINES];
        final int[] start = new int[TEXT_LINES];
        final int[] when = new int[TEXT_LINES];
        final int[] stop = new int[TEXT_LINES];
        private final int[] code = new int[TAPE];
        private final int[] stack = new int[DEEPEST];

        void copyFrom(Law other) {
            lines = other.lines;
            size = other.size;
            System.arraycopy(other.word, 0, word, 0, TEXT_LINES);
            System.arraycopy(other.start, 0, start, 0, TEXT_LINES);
            System.arraycopy(other.when, 0, when, 0, TEXT_LINES);
            System.arraycopy(other.stop, 0, stop, 0, TEXT_LINES);
            System.arraycopy(other.code, 0, code, 0, TAPE);
        }

        void clear() {
            lines = 0;
            size = 0;
        }

        void begin(int token) {
            if (lines < TEXT_LINES) {
                word[lines] = token;
                start[lines] = size;
            }
        }

        void sumEnds() {
            if (lines < TEXT_LINES) {
                when[lines] = size;
            }
        }

        void lineEnds() {
            if (lines < TEXT_LINES) {
                stop[lines] = size;
                lines++;
            }
        }

        void emit(int operation, int number) {
            if (size < TAPE) {
                code[size] = operation * NUMBERS + number;
                size++;
            }
        }

        int value(int from, int to, int[] words) {
            int top = 0;
            for (int i = Math.max(from, 0); i < to && i < size; i++) {
                int operation = code[i] / NUMBERS;
                int number = code[i] % NUMBERS;
                int asked = operation - FIRST_WORD;
                if (operation == NUMBER || asked >= 0 && asked < words.length) {
                    if (top < DEEPEST) {
                        stack[top] = operation == NUMBER ? number : words[asked];
                        top++;
                    }
                } else if (operation == NOT || operation == '/') {
                    if (top > 0) {
                        stack[top - 1] = single(operation, stack[top - 1], number);
                    }
                } else if (top > 1) {
                    top--;
                    stack[top - 1] = pair(operation, stack[top - 1], stack[top]);
                }
            }
            return top > 0 ? stack[top - 1] : 0;
        }

        private static int single(int operation, int v, int number) {
            if (operation == NOT) {
                return v == 0 ? 1 : 0;
            }
            return number == 0 ? 0 : v / number;
        }

        private static int pair(int operation, int a, int b) {
            switch (operation) {
                case '+':
                    return a + b;
                case '-':
                    return a - b;
                case '*':
                    return a * b;
                case '<':
                    return a < b ? 1 : 0;
                case '=':
                    return a == b ? 1 : 0;
                case '>':
                    return a > b ? 1 : 0;
                case AND:
                    return a & b;
                default:
                    return a | b;
            }
        }
    }

    /** The four TEXTS as they were told last without a FAULT. */
    private static final class Texts {
        final Law law = new Law();
        private final int[] weather = new int[TEXT_LINES * COLUMNS];
        private final int[] heirs = new int[PERSONS];
        private final int[] heirOfMany = new int[PERSONS];
        private final int[] lines = new int[4];

        Texts() {
            Arrays.fill(heirs, NONE);
        }

        void copyFrom(Texts other) {
            law.copyFrom(other.law);
            System.arraycopy(other.weather, 0, weather, 0, weather.length);
            System.arraycopy(other.heirs, 0, heirs, 0, PERSONS);
            System.arraycopy(other.heirOfMany, 0, heirOfMany, 0, PERSONS);
            System.arraycopy(other.lines, 0, lines, 0, lines.length);
        }

        void take(int k, Reader reader) {
            if (k < 0 || k >= lines.length) {
                return;
            }
            lines[k] = reader.lines;
            if (k == THE_LAW) {
                law.copyFrom(reader.law);
            } else if (k == WEATHER) {
                System.arraycopy(reader.rows, 0, weather, 0, weather.length);
            } else if (k == HEIRS) {
                takeHeirs(reader.rows, reader.lines);
            }
        }

        private void takeHeirs(int[] rows, int many) {
            Arrays.fill(heirs, NONE);
            for (int i = 0; i < many && i * COLUMNS + 1 < rows.length; i++) {
                int person = rows[i * COLUMNS];
                if (person >= 0 && person < PERSONS) {
                    heirs[person] = rows[i * COLUMNS + 1];
                }
            }
            countHeirs();
        }

        private void countHeirs() {
            Arrays.fill(heirOfMany, 0);
            for (int person = 0; person < PERSONS; person++) {
                int heir = heirs[person];
                if (heir >= 0 && heir < PERSONS) {
                    heirOfMany[heir]++;
                }
            }
        }

        int linesOf(int k) {
            return k >= 0 && k < lines.length ? lines[k] : NONE;
        }

        int weatherAt(int line, int column) {
            int at = line * COLUMNS + column;
            return at >= 0 && at < weather.length ? weather[at] : NONE;
        }

        int heirOf(int person) {
            return person >= 0 && person < PERSONS ? heirs[person] : NONE;
        }

        int heirOfHowMany(int person) {
            return person >= 0 && person < PERSONS ? heirOfMany[person] : 0;
        }
    }

    /** All that is and was told: what THE IMAGE holds. */
    private static final class Port {
        final Figures figures = new Figures(false);
        private final int[] rows = new int[BOOK_LINES * BOOK_COLUMNS];
        final Texts texts = new Texts();
        final Told told = new Told();

        void copyFrom(Port other) {
            figures.copyFrom(other.figures);
            System.arraycopy(other.rows, 0, rows, 0, rows.length);
            texts.copyFrom(other.texts);
            told.copyFrom(other.told);
        }

        void note(Figures f, int what, int who, int amount) {
            if (f.thinking || f.lines < 0 || f.lines >= BOOK_LINES) {
                return;
            }
            int at = f.lines * BOOK_COLUMNS;
            rows[at] = f.day;
            rows[at + 1] = what;
            rows[at + 2] = who;
            rows[at + 3] = amount;
            f.lines++;
        }

        int bookAt(int line, int column) {
            boolean there = line >= 0 && line < figures.lines && line < BOOK_LINES
                    && column >= 0 && column < BOOK_COLUMNS;
            return there ? rows[line * BOOK_COLUMNS + column] : NONE;
        }
    }

    /** How a DAY goes, for the port as it is and for one in thought. */
    private static final class Days {
        private final Port port;
        private final Texts texts;
        private final int[] words = new int[WORDS];
        private final int[] before = new int[PERSONS];

        Days(Port port) {
            this.port = port;
            this.texts = port.texts;
        }

        int goBy(Figures f) {
            int spilt = weather(f);
            for (int person = 0; person < f.count; person++) {
                if (f.isAlive(person) && happens(f, asks(f, person, SPILLS))) {
                    spill(f, person);
                    spilt++;
                }
            }
            for (int seat = 0; seat < SEATS; seat++) {
                runOff(f, seat);
            }
            f.day++;
            return spilt;
        }

        private static boolean happens(Figures f, int likely) {
            if (f.thinking) {
                return likely >= THOUGHT_SPILLS;
            }
            return likely > 0 && f.draw(SURE) < likely;
        }

        private int weather(Figures f) {
            int spilt = 0;
            for (int i = 0; i < texts.linesOf(WEATHER); i++) {
                if (texts.weatherAt(i, 0) != f.day) {
                    continue;
                }
                int person = texts.weatherAt(i, 2);
                int n = texts.weatherAt(i, 3);
                switch (texts.weatherAt(i, 1)) {
                    case WET_WORD:
                        f.wet = n;
                        break;
                    case CATTLE:
                        cattleCome(f, n);
                        break;
                    case FEAST:
                        for (int guest = 0; guest < f.count; guest++) {
                            // Nobody who is not ALIVE has a SEAT.
                            if (f.get(guest, SEAT) != NONE) {
                                spill(f, guest);
                                spilt++;
                            }
                        }
                        break;
                    case SCOLD:
                        f.put(person, BELIEF, n);
                        break;
                    default:
                        die(f, person);
                        break;
                }
            }
            return spilt;
        }

        void spill(Figures f, int person) {
            f.add(person, SPILT, 1);
            int thrown = asks(f, person, THROWS);
            f.add(person, THROWN, thrown);
            f.pour(person, thrown);
            port.note(f, THREW, person, thrown);
        }

        void sweep(Figures f, int person) {
            int salt = f.get(person, SALT);
            f.swept += salt;
            f.put(person, SALT, 0);
            port.note(f, WAS_SWEPT, person, salt);
        }

        void die(Figures f, int person) {
            if (!f.isAlive(person)) {
                return;
            }
            int salt = f.get(person, SALT);
            int heir = texts.heirOf(person);
            f.rise(person);
            f.put(person, ALIVE, 0);
            f.put(person, SALT, 0);
            port.note(f, DIED, person, salt);
            if (f.isAlive(heir)) {
                port.note(f, INHERITED, heir, f.pour(heir, salt));
            } else {
                f.swept += salt;
            }
        }

        private void cattleCome(Figures f, int n) {
            for (int person = 0; person < PERSONS; person++) {
                before[person] = f.get(person, SALT);
            }
            int left = n;
            for (int i = 0; i <= PERSONS && left > 0; i++) {
                left -= lick(f, left);
            }
            for (int person = 0; person < f.count && person < PERSONS; person++) {
                int licked = before[person] - f.get(person, SALT);
                if (licked > 0) {
                    f.add(person, LICKED, licked);
                    port.note(f, WAS_LICKED, person, licked);
                }
            }
        }

        /** Grain by grain the tallest come down by turns, the least PERSON first, till they are as low as the next. */
        private static int lick(Figures f, int n) {
            int top = f.get(f.tallest(), SALT);
            int many = f.howMany(SALT, top);
            if (top <= 0 || many <= 0) {
                return n;
            }
            int grains = Math.min(n, many * (top - f.mostBelow(top)));
            int each = grains / many;
            int oneMore = grains % many;
            for (int person = 0; person < f.count; person++) {
                if (f.get(person, SALT) == top) {
                    f.add(person, SALT, oneMore > 0 ? -each - 1 : -each);
                    oneMore--;
                }
            }
            return grains;
        }

        private void runOff(Figures f, int seat) {
            int person = f.holder(seat);
            if (person == NONE || f.get(person, SALT) <= 0) {
                return;
            }
            int runs = asks(f, person, RUNS);
            if (runs <= 0) {
                return;
            }
            int half = runs / 2;
            int beside = f.holder(seat + 1);
            f.add(person, SALT, -runs);
            f.run += runs - half;
            if (beside == NONE) {
                f.run += half;
            } else {
                f.pour(beside, half);
            }
            port.note(f, RAN, person, runs);
        }

        int asks(Figures f, int person, int word) {
            readWords(f, person);
            Law law = texts.law;
            int told = usual(word);
            for (int line = 0; line < law.lines && line < TEXT_LINES; line++) {
                int from = law.when[line];
                int to = law.stop[line];
                if (law.word[line] == word && (from == to || law.value(from, to, words) != 0)) {
                    told = law.value(law.start[line], from, words);
                    break;
                }
            }
            int most = word == SPILLS ? SURE : word == THROWS ? MOST_THROWN : words[SALT];
            return Math.max(0, Math.min(most, told));
        }

        private void readWords(Figures f, int person) {
            for (int field = 0; field < OWN_WORDS; field++) {
                words[field] = f.get(person, field);
            }
            int seat = f.get(person, SEAT);
            int beside = seat == NONE ? NONE : f.holder(seat + 1);
            words[SEAT_IN_WORDS] = seat;
            words[WET_IN_WORDS] = f.wet;
            words[BESIDE_IN_WORDS] = beside == NONE ? 0 : f.get(beside, SALT);
            words[HEIRS_IN_WORDS] = texts.heirOfHowMany(person);
            words[DAY_IN_WORDS] = f.day;
        }

        private int usual(int word) {
            if (word == SPILLS) {
                return 500;
            }
            return word == THROWS ? 10 * words[BELIEF] : words[WET_IN_WORDS] * (words[SALT] / 100);
        }
    }

    /** The TAPE, its tokens, and what a text on it says; the first FAULT met is the first by its place. */
    private static final class Reader {
        private static final int BYTES = 20;
        private static final int LONGEST_NUMBER = 4;
        private final int[] tape = new int[TAPE];
        private int length;
        private int limit;
        private int kind;
        private int value;
        private int from;
        private int to;
        private int persons;
        int fault;
        int place = NONE;
        int lines;
        final Law law = new Law();
        final int[] rows = new int[TEXT_LINES * COLUMNS];

        boolean hasRoom() {
            return length + BYTES <= TAPE;
        }

        int append(int number) {
            for (int shift = 24; shift >= 0 && length < TAPE; shift -= 8) {
                tape[length] = number >>> shift & 255;
                length++;
            }
            return length;
        }

        boolean cut(int n) {
            if (n < 0 || n > length) {
                return false;
            }
            length = n;
            return true;
        }

        /** The TAPE is empty from here on, whatever is made of it: its bytes are read up to the limit. */
        void open(int count) {
            persons = count;
            limit = length;
            length = 0;
            fault = 0;
            place = NONE;
            lines = 0;
            to = 0;
            next();
        }

        /** Goes on to the next token; behind a FAULT there is none, so that the reading runs out by itself. */
        private void next() {
            from = to;
            while (from < limit && (tape[from] == ' ' || tape[from] == '\n')) {
                from++;
            }
            to = from;
            if (from >= limit || fault != 0) {
                kind = THE_END;
                return;
            }
            int c = tape[from];
            to++;
            if (isDigit(c)) {
                value = c - '0';
                for (; to < limit && isDigit(tape[to]); to++) {
                    value = value * 10 + tape[to] - '0';
                }
                kind = to - from > LONGEST_NUMBER ? NOTHING : NUMBER;
            } else if (isLetter(c)) {
                while (to < limit && isLetter(tape[to])) {
                    to++;
                }
                kind = keyword();
            } else {
                kind = SIGNS.indexOf((char) c) >= 0 ? c : NOTHING;
            }
        }

        private static boolean isDigit(int c) {
            return c >= '0' && c <= '9';
        }

        private static boolean isLetter(int c) {
            return c >= 'a' && c <= 'z' || c >= 'A' && c <= 'Z';
        }

        private int keyword() {
            int token = 1;
            int i = from;
            boolean alike = true;
            for (int k = 0; k < KEYWORDS.length(); k++) {
                char c = KEYWORDS.charAt(k);
                if (c != ' ') {
                    alike = alike && i < to && i < TAPE && tape[i] == c;
                    i++;
                } else if (alike && i == to) {
                    return token;
                } else {
                    token++;
                    i = from;
                    alike = true;
                }
            }
            return NOTHING;
        }

        private void fail(int what) {
            if (fault == 0) {
                fault = what;
                place = from;
            }
            kind = THE_END;
        }

        private void take(int token) {
            if (kind == token) {
                next();
            } else {
                fail(1);
            }
        }

        private int number(int least, int most, int unlike) {
            if (kind != NUMBER) {
                fail(1);
                return NONE;
            }
            if (value < least || value > most || value == unlike) {
                fail(2);
                return NONE;
            }
            int number = value;
            next();
            return number;
        }

        /** The number of a PERSON that there is, another than that one. */
        private int whom(int unlike) {
            return number(0, persons - 1, unlike);
        }

        private boolean begins(int token) {
            if (kind == THE_END) {
                return false;
            }
            if (kind != token) {
                fail(1);
                return false;
            }
            if (lines >= TEXT_LINES) {
                fail(3);
                return false;
            }
            next();
            return true;
        }

        private void ends(int a, int b, int c, int d) {
            take(';');
            if (fault != 0 || lines < 0 || lines >= TEXT_LINES) {
                return;
            }
            int row = lines * COLUMNS;
            rows[row] = a;
            rows[row + 1] = b;
            rows[row + 2] = c;
            rows[row + 3] = d;
            lines++;
        }

        void readTable() {
            for (int i = 0; i <= TEXT_LINES && begins(SEAT_WORD); i++) {
                int seat = number(0, SEATS - 1, NONE);
                take(PERSON_WORD);
                ends(seat, whom(NONE), NONE, NONE);
            }
        }

        void readHeirs() {
            for (int i = 0; i <= TEXT_LINES && begins(PERSON_WORD); i++) {
                int person = whom(NONE);
                take(HEIR);
                ends(person, whom(person), NONE, NONE);
            }
        }

        void readWeather() {
            for (int i = 0; i <= TEXT_LINES && begins(ON); i++) {
                int day = number(0, 999, NONE);
                int what = kind;
                int person = NONE;
                int n = NONE;
                if (what == WET_WORD || what == CATTLE || what == FEAST || what == SCOLD || what == DIE) {
                    next();
                } else {
                    fail(1);
                }
                if (what == SCOLD || what == DIE) {
                    person = whom(NONE);
                }
                if (what == WET_WORD || what == SCOLD) {
                    n = number(0, 9, NONE);
                } else if (what == CATTLE) {
                    n = number(1, 999, NONE);
                }
                ends(day, what, person, n);
            }
        }

        void readLaw() {
            law.clear();
            for (int i = 0; i <= TEXT_LINES; i++) {
                int word = kind;
                boolean known = word == SPILLS || word == THROWS || word == RUNS;
                if (!begins(known ? word : SPILLS)) {
                    return;
                }
                law.begin(word);
                sum();
                law.sumEnds();
                if (kind == WHEN) {
                    next();
                    condition(0);
                }
                law.lineEnds();
                ends(NONE, NONE, NONE, NONE);
            }
        }

        /** B: an or waits till the ands behind it are done. */
        private void condition(int open) {
            boolean waits = false;
            comparison(open);
            for (int i = 0; i < TAPE && (kind == AND || kind == OR); i++) {
                boolean and = kind == AND;
                next();
                if (!and && waits) {
                    law.emit(OR, 0);
                }
                waits = waits || !and;
                comparison(open);
                if (and) {
                    law.emit(AND, 0);
                }
            }
            if (waits) {
                law.emit(OR, 0);
            }
        }

        private void comparison(int open) {
            int sign = kind;
            if (sign != NOT && sign != '(') {
                sum();
                sign = kind;
                if (sign == '<' || sign == '=' || sign == '>') {
                    next();
                    sum();
                    law.emit(sign, 0);
                } else {
                    fail(1);
                }
            } else if (open >= OPEN_AT_MOST) {
                fail(3);
            } else if (sign == NOT) {
                next();
                comparison(open + 1);
                law.emit(NOT, 0);
            } else {
                next();
                condition(open + 1);
                take(')');
            }
        }

        /** E: a + or - waits till the products behind it are done. */
        private void sum() {
            int waits = NONE;
            operand();
            for (int i = 0; i < TAPE; i++) {
                int sign = kind;
                if (sign == '*') {
                    next();
                    operand();
                    law.emit(sign, 0);
                } else if (sign == '/') {
                    next();
                    law.emit(sign, number(1, 9999, NONE));
                } else if (sign == '+' || sign == '-') {
                    next();
                    if (waits != NONE) {
                        law.emit(waits, 0);
                    }
                    waits = sign;
                    operand();
                } else {
                    break;
                }
            }
            if (waits != NONE) {
                law.emit(waits, 0);
            }
        }

        private void operand() {
            int token = kind;
            if (token == NUMBER) {
                law.emit(NUMBER, value);
                next();
            } else if (token >= FIRST_WORD && token < FIRST_WORD + WORDS) {
                law.emit(token, 0);
                next();
            } else {
                fail(1);
            }
        }
    }

    /** A row of numbers told one by one, each within bounds. */
    private static final class Row {
        private final int least;
        private final int most;
        private final int[] values;
        int size;

        Row(int room, int least, int most) {
            this.least = least;
            this.most = most;
            values = new int[Math.max(room, 0)];
        }

        void copyFrom(Row other) {
            size = Math.min(other.size, values.length);
            System.arraycopy(other.values, 0, values, 0, Math.min(other.values.length, values.length));
        }

        int clear() {
            size = 0;
            return size;
        }

        boolean takes(int v) {
            return v >= least && v <= most && size < values.length;
        }

        /** NONE empties it. */
        int tell(int v) {
            if (v == NONE) {
                return clear();
            }
            return append(v);
        }

        int append(int v) {
            if (v < least || v > most || size < 0 || size >= values.length) {
                return NONE;
            }
            values[size] = v;
            size++;
            return size;
        }

        boolean has(int i) {
            return i >= 0 && i < size;
        }

        int at(int i) {
            return i >= 0 && i < size && i < values.length ? values[i] : 0;
        }

        boolean holds(int v) {
            for (int i = 0; i < size; i++) {
                if (at(i) == v) {
                    return true;
                }
            }
            return false;
        }
    }

    /** What is told for thought. */
    private static final class Told {
        int since;
        final Row xs = new Row(8, -99, 99);
        final Row ys = new Row(8, -99, 99);
        final Row weights = new Row(6, 1, 60);
        final Row first = new Row(10, 0, 9);
        final Row second = new Row(10, 0, 9);
        final Row periods = new Row(6, 2, 30);
        final Row stages = new Row(6, 1, 20);
        final Row places = new Row(8, 1, 99);
        final Row heights = new Row(8, 1, 60);
        final Row heap = new Row(8, 0, 99);

        void copyFrom(Told other) {
            since = other.since;
            xs.copyFrom(other.xs);
            ys.copyFrom(other.ys);
            weights.copyFrom(other.weights);
            first.copyFrom(other.first);
            second.copyFrom(other.second);
            periods.copyFrom(other.periods);
            stages.copyFrom(other.stages);
            places.copyFrom(other.places);
            heights.copyFrom(other.heights);
            heap.copyFrom(other.heap);
        }
    }

    /** What is thought about what is told; its rows are made once and used by every thought. */
    private static final class Thinker {
        static final int HEAVIEST = 360;
        static final int LONGEST = 200;
        private static final int ROOM = 361;
        private static final int SHORT = 32;
        private static final int STEEP = 3;
        private final Told told;
        private final int[] scratch = new int[ROOM];
        private final int[] other = new int[SHORT];

        Thinker(Told told) {
            this.told = told;
        }

        int addPoint(int x, int y) {
            for (int i = 0; i < told.xs.size; i++) {
                if (told.xs.at(i) == x && told.ys.at(i) == y) {
                    return NONE;
                }
            }
            return addBoth(told.xs, x, told.ys, y);
        }

        int addPost(int place, int height) {
            return addBoth(told.places, place, told.heights, height);
        }

        private static int addBoth(Row a, int v, Row b, int w) {
            if (!a.takes(v) || !b.takes(w)) {
                return NONE;
            }
            a.append(v);
            return b.append(w);
        }

        /** Above 0: p lies on the left, going from a to b. */
        int turn(int a, int b, int p) {
            int x = told.xs.at(a);
            int y = told.ys.at(a);
            return (told.xs.at(b) - x) * (told.ys.at(p) - y) - (told.ys.at(b) - y) * (told.xs.at(p) - x);
        }

        /** About all points with all on the left: how many corners, or twice the area. */
        int outline(boolean area) {
            int size = told.xs.size;
            if (size < 2) {
                return area ? 0 : size;
            }
            int start = lowest();
            int corner = start;
            int corners = 0;
            int twice = 0;
            for (int i = 0; i < size; i++) {
                int next = nextCorner(corner);
                twice += told.xs.at(corner) * told.ys.at(next) - told.xs.at(next) * told.ys.at(corner);
                corners++;
                corner = next;
                if (corner == start) {
                    break;
                }
            }
            return area ? twice : corners;
        }

        private int lowest() {
            int best = 0;
            for (int i = 1; i < told.xs.size; i++) {
                int higher = told.ys.at(i) - told.ys.at(best);
                if (higher < 0 || higher == 0 && told.xs.at(i) < told.xs.at(best)) {
                    best = i;
                }
            }
            return best;
        }

        private int nextCorner(int corner) {
            int next = corner == 0 ? 1 : 0;
            for (int i = 0; i < told.xs.size; i++) {
                int turn = turn(corner, next, i);
                // Of those straight ahead the farthest one is the corner.
                if (turn < 0 || turn == 0 && apart(corner, i) > apart(corner, next)) {
                    next = i;
                }
            }
            return next;
        }

        private int apart(int a, int b) {
            int x = told.xs.at(a) - told.xs.at(b);
            int y = told.ys.at(a) - told.ys.at(b);
            return x * x + y * y;
        }

        int weighings(int m) {
            int ways = 0;
            int laidWays = laidWays();
            for (int laid = 0; laid < laidWays; laid++) {
                if (weighed(laid) == m) {
                    ways++;
                }
            }
            return ways;
        }

        int balancedNumbers() {
            Arrays.fill(scratch, 0);
            int numbers = 0;
            int laidWays = laidWays();
            for (int laid = 0; laid < laidWays; laid++) {
                int m = weighed(laid);
                if (m > 0 && m < ROOM && scratch[m] == 0) {
                    scratch[m] = 1;
                    numbers++;
                }
            }
            return numbers;
        }

        private int laidWays() {
            int ways = 1;
            for (int i = 0; i < told.weights.size; i++) {
                ways *= 3;
            }
            return ways;
        }

        /** The digits of laid to the base 3 say of each weight: right, none, left. */
        private int weighed(int laid) {
            int more = 0;
            int rest = laid;
            for (int i = 0; i < told.weights.size; i++) {
                more += (rest % 3 - 1) * told.weights.at(i);
                rest /= 3;
            }
            return more;
        }

        int shadowWays() {
            int size = told.second.size;
            Arrays.fill(scratch, 0);
            scratch[0] = 1;
            for (int i = 0; i < told.first.size; i++) {
                // From behind, so that one place serves once only.
                for (int j = size; j >= 1 && j < ROOM; j--) {
                    if (told.first.at(i) == told.second.at(j - 1)) {
                        scratch[j] += scratch[j - 1];
                    }
                }
            }
            return size >= 0 && size < ROOM ? scratch[size] : 0;
        }

        /** All minutes less those of each period, and more again those that so were taken off twice, and so on. */
        int dryMinutes(int n) {
            int dry = 0;
            for (int chosen = 0; chosen < 1 << told.periods.size; chosen++) {
                int together = n / Math.max(1, atOnce(chosen));
                dry += Integer.bitCount(chosen) % 2 == 0 ? together : -together;
            }
            return dry;
        }

        int allAtOnce() {
            return told.periods.size == 0 ? NONE : atOnce((1 << told.periods.size) - 1);
        }

        /** Behind how many minutes all periods of that set fall at once. */
        private int atOnce(int chosen) {
            int minutes = 1;
            for (int i = 0; i < told.periods.size; i++) {
                if ((chosen >> i & 1) == 1) {
                    int period = told.periods.at(i);
                    minutes *= period / Math.max(1, Sums.measure(minutes, period));
                }
            }
            return minutes;
        }

        int tellFirst() {
            for (int i = 0; i < told.first.size && i < SHORT; i++) {
                other[i] = told.first.at(i);
            }
            return tellShortly(told.first.size);
        }

        int tellingAt(int i) {
            return i >= 0 && i < ROOM ? scratch[i] : NONE;
        }

        int toldAgain(int times) {
            int size = 1;
            other[0] = 1;
            for (int i = 0; i < times; i++) {
                size = tellShortly(size);
                System.arraycopy(scratch, 0, other, 0, Math.max(0, Math.min(size, SHORT)));
            }
            return size;
        }

        /** The first numbers of other are told in scratch. */
        private int tellShortly(int size) {
            int count = 0;
            int often = 0;
            for (int i = 0; i < size && i < SHORT; i++) {
                often++;
                boolean last = i + 1 >= size || i + 1 >= SHORT || other[i + 1] != other[i];
                if (last && count + 1 < ROOM) {
                    scratch[count] = often;
                    scratch[count + 1] = other[i];
                    count += 2;
                    often = 0;
                }
            }
            return count;
        }

        int voyageRows(int l) {
            scratch[0] = 1;
            for (int league = 1; league <= l && league < ROOM; league++) {
                int rows = 0;
                for (int i = 0; i < told.stages.size; i++) {
                    int ahead = league - told.stages.at(i);
                    if (ahead >= 0 && ahead < league) {
                        rows = (rows + scratch[ahead]) % MODULUS;
                    }
                }
                scratch[league] = rows;
            }
            return l >= 0 && l < ROOM ? scratch[l] : 0;
        }

        int fewestStages(int l) {
            scratch[0] = 0;
            for (int league = 1; league <= l && league < ROOM; league++) {
                int fewest = NONE;
                for (int i = 0; i < told.stages.size; i++) {
                    int ahead = league - told.stages.at(i);
                    boolean reached = ahead >= 0 && ahead < league && scratch[ahead] != NONE;
                    if (reached && (fewest == NONE || scratch[ahead] + 1 < fewest)) {
                        fewest = scratch[ahead] + 1;
                    }
                }
                scratch[league] = fewest;
            }
            return l >= 0 && l < ROOM ? scratch[l] : NONE;
        }

        /** Where the ray over post i comes to the ground: the fraction's lower or upper number. */
        int rayEnd(int h, int i, boolean lower) {
            int below = h - told.heights.at(i);
            if (below <= 0) {
                return lower ? 0 : 1;
            }
            int above = h * told.places.at(i);
            return (lower ? below : above) / Math.max(1, Sums.measure(above, below));
        }

        int litPosts(int h) {
            int lit = 0;
            for (int i = 0; i < told.places.size; i++) {
                if (isLit(h, i)) {
                    lit++;
                }
            }
            return lit;
        }

        private boolean isLit(int h, int i) {
            int place = told.places.at(i);
            for (int k = 0; k < told.places.size; k++) {
                int near = told.places.at(k);
                if (near < place || near == place && k < i) {
                    // Both sides times the nearer place, so that nothing is divided.
                    int ray = h * near - place * (h - told.heights.at(k));
                    if (ray >= told.heights.at(i) * near) {
                        return false;
                    }
                }
            }
            return true;
        }

        /** How many grains fall; the places as they lie then are left in scratch. */
        int settle() {
            int size = told.heap.size;
            for (int i = 0; i < size && i < ROOM; i++) {
                scratch[i] = told.heap.at(i);
            }
            int falls = 0;
            int i = size - 1;
            // Each of at most 792 grains falls 8 times at most, and each step up follows a fall.
            for (int step = 0; step < 20000 && i >= 0 && i < ROOM; step++) {
                int ahead = i == 0 ? 0 : scratch[i - 1];
                if (scratch[i] >= ahead + STEEP) {
                    scratch[i]--;
                    if (i > 0) {
                        scratch[i - 1]++;
                    }
                    falls++;
                    // Beyond the next greater place all stands as before, and none of it was to fall.
                    i = Math.min(i + 1, size - 1);
                } else {
                    i--;
                }
            }
            return falls;
        }

        int liesAt(int i) {
            return i >= 0 && i < ROOM ? scratch[i] : NONE;
        }
    }

    /** Thoughts that need nothing told. */
    private static final class Sums {
        private static final int FIRST_YEAR = 1600;
        private static final int LAST_YEAR = 2400;
        private static final int SATURDAY = 6;
        private static final int FRIDAY = 5;
        private static final int MOST_TURNS = 20;
        private static final int GREATEST_TURNED = 999999999;

        private Sums() {
        }

        static boolean isDate(int y, int m, int d) {
            return y >= FIRST_YEAR && y <= LAST_YEAR && d >= 1 && d <= monthLength(y, m);
        }

        private static int monthLength(int y, int m) {
            if (m < 1 || m > MONTHS.length) {
                return 0;
            }
            boolean leap = y % 4 == 0 && (y % 100 != 0 || y % 400 == 0);
            return m == 2 && leap ? 29 : MONTHS[m - 1];
        }

        /** How many days from 1600, 1, 1 on. */
        static int dayNumber(int y, int m, int d) {
            int number = d - 1;
            for (int month = 1; month < m && month <= MONTHS.length; month++) {
                number += monthLength(y, month);
            }
            return number + 365 * (y - FIRST_YEAR) + leapYearsTo(y - 1) - leapYearsTo(FIRST_YEAR - 1);
        }

        private static int leapYearsTo(int y) {
            return y / 4 - y / 100 + y / 400;
        }

        /** 1600, 1, 1 was a Saturday. */
        static int weekday(int number) {
            return Math.floorMod(number + SATURDAY, 7);
        }

        static int fridays(int y) {
            int months = 0;
            for (int m = 1; m <= MONTHS.length; m++) {
                if (weekday(dayNumber(y, m, 13)) == FRIDAY) {
                    months++;
                }
            }
            return months;
        }

        static int turnAbout(int n, boolean whatItIs) {
            int number = n;
            for (int times = 0; times <= MOST_TURNS && number <= GREATEST_TURNED; times++) {
                int behind = fromBehind(number);
                if (behind == number) {
                    return whatItIs ? number : times;
                }
                number += behind;
            }
            return NONE;
        }

        private static int fromBehind(int n) {
            int turned = 0;
            for (int rest = n; rest > 0; rest /= 10) {
                turned = turned * 10 + rest % 10;
            }
            return turned;
        }

        static int fewestWeighings(int n, boolean heavy) {
            if (n == 1) {
                return 0;
            }
            if (n == 2 && !heavy) {
                return NONE;
            }
            int weighings = 0;
            // Not known whether heavy or light: of 3 to the w courses one leads to a coin never weighed, two to each other.
            for (int courses = 1; (heavy ? courses : (courses - 1) / 2) < n && weighings < 10; courses *= 3) {
                weighings++;
            }
            return weighings;
        }

        /** A floor of odd length has an odd number of squares; f(n) = 4 f(n - 2) - f(n - 4). */
        static int floors(int n) {
            if (n % 2 != 0) {
                return 0;
            }
            long ways = 1;
            long shorter = 1;
            for (int length = 2; length <= n; length += 2) {
                long longer = Math.floorMod(4 * ways - shorter, (long) MODULUS);
                shorter = ways;
                ways = longer;
            }
            return (int) ways;
        }

        static int numberOfSight(int sight) {
            int number = 0;
            for (int rest = sight; rest > 0; rest >>= 1) {
                number ^= rest;
            }
            return number;
        }

        /** The greatest common measure. */
        static int measure(int a, int b) {
            int greater = a;
            int less = b;
            for (int i = 0; i < 64 && less != 0; i++) {
                int rest = greater % less;
                greater = less;
                less = rest;
            }
            return greater;
        }
    }
}
