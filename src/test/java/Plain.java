import java.math.BigInteger;
import java.nio.ByteBuffer;
import java.time.LocalDate;
import java.util.ArrayDeque;
import java.util.ArrayList;
import java.util.Arrays;
import java.util.Deque;
import java.util.HashMap;
import java.util.HashSet;
import java.util.List;
import java.util.Map;
import java.util.Set;
import java.util.TreeMap;

/** The document's words once more, done in the longest and plainest way, to be compared with SaltFigures. */
final class Plain {
    static final class Person implements Cloneable {
        int belief;
        int salt;
        int spilt;
        int thrown;
        int licked;
        boolean alive = true;
        int seat = -1;

        Person copy() {
            try {
                return (Person) clone();
            } catch (CloneNotSupportedException e) {
                throw new IllegalStateException(e);
            }
        }
    }

    interface Term {
        int of(World w, Person p);
    }

    record LawLine(String word, Term sum, Term when) {
    }

    record WeatherLine(int day, String what, int person, int n) {
    }

    static final class World {
        List<Person> persons = new ArrayList<>();
        int wet;
        int run;
        int swept;
        int day;
        int state;
        List<int[]> book = new ArrayList<>();
        List<LawLine> law = new ArrayList<>();
        int tableLines;
        List<WeatherLine> weather = new ArrayList<>();
        List<int[]> heirs = new ArrayList<>();
        LocalDate since = LocalDate.of(1600, 1, 1);
        Map<String, List<Integer>> told = new TreeMap<>();
        boolean thinking;

        World copy() {
            World w = new World();
            for (Person p : persons) {
                w.persons.add(p.copy());
            }
            w.wet = wet;
            w.run = run;
            w.swept = swept;
            w.day = day;
            w.state = state;
            w.book.addAll(book);
            w.law.addAll(law);
            w.tableLines = tableLines;
            w.weather.addAll(weather);
            w.heirs.addAll(heirs);
            w.since = since;
            told.forEach((k, v) -> w.told.put(k, new ArrayList<>(v)));
            w.thinking = thinking;
            return w;
        }

        List<Integer> row(String name) {
            return told.computeIfAbsent(name, k -> new ArrayList<>());
        }

        Person at(int seat) {
            for (Person p : persons) {
                if (seat >= 0 && p.seat == seat) {
                    return p;
                }
            }
            return null;
        }

        Person heirOf(Person p) {
            Person heir = null;
            for (int[] line : heirs) {
                if (line[0] == persons.indexOf(p)) {
                    heir = persons.get(line[1]);
                }
            }
            return heir;
        }

        int heirs(Person p) {
            int n = 0;
            for (Person q : persons) {
                if (heirOf(q) == p) {
                    n++;
                }
            }
            return n;
        }

        int beside(Person p) {
            Person q = p.seat == -1 ? null : at(p.seat + 1);
            return q == null ? 0 : q.salt;
        }

        int asks(Person p, String word) {
            int v = word.equals("spills") ? 500 : word.equals("throws") ? 10 * p.belief : wet * (p.salt / 100);
            for (LawLine line : law) {
                if (line.word.equals(word) && (line.when == null || line.when.of(this, p) == 1)) {
                    v = line.sum.of(this, p);
                    break;
                }
            }
            int most = word.equals("spills") ? 1000 : word.equals("throws") ? 999 : p.salt;
            return v < 0 ? 0 : v > most ? most : v;
        }

        void note(int what, Person p, int much) {
            if (book.size() < 150) {
                book.add(new int[] {day, what, persons.indexOf(p), much});
            }
        }

        int gets(Person p, int salt) {
            int was = p.salt;
            for (int i = 0; i < salt; i++) {
                if (p.salt < 9999) {
                    p.salt++;
                } else {
                    swept++;
                }
            }
            return p.salt - was;
        }

        void spill(Person p) {
            p.spilt++;
            int t = asks(p, "throws");
            p.thrown += t;
            gets(p, t);
            note(0, p, t);
        }

        void die(Person p) {
            if (!p.alive) {
                return;
            }
            p.alive = false;
            p.seat = -1;
            int had = p.salt;
            p.salt = 0;
            note(5, p, had);
            Person heir = heirOf(p);
            if (heir != null && heir.alive) {
                note(3, heir, gets(heir, had));
            } else {
                swept += had;
            }
        }

        int tallest() {
            int best = -1;
            for (int i = 0; i < persons.size(); i++) {
                if (persons.get(i).salt > (best == -1 ? 0 : persons.get(best).salt)) {
                    best = i;
                }
            }
            return best;
        }

        int dayGoes() {
            int spills = 0;
            for (WeatherLine line : weather) {
                if (line.day == day) {
                    spills += weatherGoes(line);
                }
            }
            for (Person p : persons) {
                if (!p.alive) {
                    continue;
                }
                int s = asks(p, "spills");
                boolean does;
                if (thinking) {
                    does = s >= 500;
                } else {
                    does = s > 0 && draw(1000) < s;
                }
                if (does) {
                    spill(p);
                    spills++;
                }
            }
            for (int seat = 0; seat < 16; seat++) {
                Person p = at(seat);
                if (p == null || p.salt == 0) {
                    continue;
                }
                int r = asks(p, "runs");
                p.salt -= r;
                int down = r / 2;
                run += r - down;
                Person q = at(seat + 1);
                if (q == null) {
                    run += down;
                } else {
                    gets(q, down);
                }
                if (r > 0) {
                    note(1, p, r);
                }
            }
            day++;
            return spills;
        }

        int weatherGoes(WeatherLine line) {
            int spills = 0;
            switch (line.what) {
                case "wet" -> wet = line.n;
                case "scold" -> persons.get(line.person).belief = line.n;
                case "die" -> die(persons.get(line.person));
                case "feast" -> {
                    for (Person p : persons) {
                        if (p.alive && p.seat != -1) {
                            spill(p);
                            spills++;
                        }
                    }
                }
                default -> {
                    int[] of = new int[16];
                    for (int g = 0; g < line.n && tallest() != -1; g++) {
                        int who = tallest();
                        persons.get(who).licked++;
                        persons.get(who).salt--;
                        of[who]++;
                    }
                    for (int i = 0; i < persons.size(); i++) {
                        if (of[i] > 0) {
                            note(2, persons.get(i), of[i]);
                        }
                    }
                }
            }
            return spills;
        }

        int draw(int m) {
            state = (int) (state * 1664525L + 1013904223L);
            return (int) ((state & 0xffffffffL) / 256 % m);
        }

        World thought() {
            World w = copy();
            w.thinking = true;
            return w;
        }
    }

    static final class Fault extends RuntimeException {
        private static final long serialVersionUID = 1L;
        final int what;
        final int place;

        Fault(int what, int place) {
            this.what = what;
            this.place = place;
        }
    }

    private World w = new World();
    private World image;
    private final Deque<World> done = new ArrayDeque<>();
    private final List<Integer> tape = new ArrayList<>();
    private int fault;
    private int place = -1;

    private void doing() {
        done.addLast(w.copy());
        if (done.size() > 6) {
            done.removeFirst();
        }
    }

    private Person alive(int i) {
        return i >= 0 && i < w.persons.size() && w.persons.get(i).alive ? w.persons.get(i) : null;
    }

    int state(int v) {
        int was = w.state;
        w.state = v;
        done.clear();
        return was;
    }

    int person(int belief) {
        if (belief < 0 || belief > 9 || w.persons.size() == 16) {
            return -1;
        }
        Person p = new Person();
        p.belief = belief;
        w.persons.add(p);
        done.clear();
        return w.persons.size() - 1;
    }

    boolean set(int what, int who, int v) {
        if (what == 2) {
            if (v < 0 || v > 9) {
                return false;
            }
            w.wet = v;
            done.clear();
            return true;
        }
        Person p = alive(who);
        if (p == null || what < 0 || what > 1 || v < 0 || v > (what == 0 ? 9 : 9999)) {
            return false;
        }
        if (what == 0) {
            p.belief = v;
        } else {
            p.salt = v;
        }
        done.clear();
        return true;
    }

    boolean act(int what, int who, int v) {
        Person p = alive(who);
        if (p == null || what < 0 || what > 4) {
            return false;
        }
        if (what == 1 && (p.seat != -1 || v < 0 || v > 15 || w.at(v) != null)
                || what == 2 && p.seat == -1 || what == 3 && p.salt == 0) {
            return false;
        }
        doing();
        switch (what) {
            case 0 -> w.spill(p);
            case 1 -> p.seat = v;
            case 2 -> p.seat = -1;
            case 3 -> {
                w.note(4, p, p.salt);
                w.swept += p.salt;
                p.salt = 0;
            }
            default -> w.die(p);
        }
        return true;
    }

    int days(int n) {
        if (n < 1 || n > 60 || w.day + n > 9999) {
            return -1;
        }
        int spills = 0;
        for (int i = 0; i < n; i++) {
            doing();
            spills += w.dayGoes();
        }
        return spills;
    }

    int feed(int a, int b, int c, int d, int e) {
        if (tape.size() > 380) {
            return -1;
        }
        for (int n : new int[] {a, b, c, d, e}) {
            for (byte x : ByteBuffer.allocate(4).putInt(n).array()) {
                tape.add(x & 255);
            }
        }
        return tape.size();
    }

    boolean end(int n) {
        if (n < 0 || n > tape.size()) {
            return false;
        }
        while (tape.size() > n) {
            tape.remove(tape.size() - 1);
        }
        return true;
    }

    record Token(String text, int place) {
    }

    private final List<Token> tokens = new ArrayList<>();
    private int next;
    private int textLines;

    private void cutIntoTokens() {
        StringBuilder s = new StringBuilder();
        tape.forEach(b -> s.append((char) (int) b));
        String text = s.toString();
        java.util.regex.Matcher m = java.util.regex.Pattern.compile("[a-zA-Z]+|[0-9]+|[^ \\n]").matcher(text);
        tokens.clear();
        next = 0;
        textLines = 0;
        while (m.find()) {
            tokens.add(new Token(m.group(), m.start()));
        }
        tokens.add(new Token("", text.length()));
        tape.clear();
    }

    private String see() {
        return tokens.get(next).text;
    }

    private Fault fails(int what) {
        return new Fault(what, tokens.get(next).place);
    }

    private void must(String... which) {
        if (!Arrays.asList(which).contains(see())) {
            throw fails(1);
        }
        next++;
    }

    private int number(int least, int most, int not) {
        if (!see().matches("[0-9]{1,4}")) {
            throw fails(1);
        }
        int v = Integer.parseInt(see());
        if (v < least || v > most || v == not) {
            throw fails(2);
        }
        next++;
        return v;
    }

    private boolean another(String... words) {
        if (see().isEmpty()) {
            return false;
        }
        if (Arrays.asList(words).contains(see()) && textLines == 16) {
            throw fails(3);
        }
        must(words);
        textLines++;
        return true;
    }

    private Term unit() {
        if (see().matches("[0-9]{1,4}")) {
            int v = number(0, 9999, -1);
            return (w, p) -> v;
        }
        String word = see();
        must("belief", "salt", "wet", "seat", "spilt", "thrown", "licked", "beside", "heirs", "day");
        return switch (word) {
            case "belief" -> (w, p) -> p.belief;
            case "salt" -> (w, p) -> p.salt;
            case "wet" -> (w, p) -> w.wet;
            case "seat" -> (w, p) -> p.seat;
            case "spilt" -> (w, p) -> p.spilt;
            case "thrown" -> (w, p) -> p.thrown;
            case "licked" -> (w, p) -> p.licked;
            case "beside" -> (w, p) -> w.beside(p);
            case "heirs" -> (w, p) -> w.heirs(p);
            default -> (w, p) -> w.day;
        };
    }

    private Term product() {
        Term t = unit();
        while (see().equals("*") || see().equals("/")) {
            Term left = t;
            if (see().equals("*")) {
                next++;
                Term right = unit();
                t = (w, p) -> left.of(w, p) * right.of(w, p);
            } else {
                next++;
                int by = number(1, 9999, -1);
                t = (w, p) -> left.of(w, p) / by;
            }
        }
        return t;
    }

    private Term sum() {
        Term t = product();
        while (see().equals("+") || see().equals("-")) {
            Term left = t;
            boolean plus = see().equals("+");
            next++;
            Term right = product();
            t = plus ? (w, p) -> left.of(w, p) + right.of(w, p) : (w, p) -> left.of(w, p) - right.of(w, p);
        }
        return t;
    }

    private Term either(int open) {
        Term t = both(open);
        while (see().equals("or")) {
            next++;
            Term left = t;
            Term right = both(open);
            t = (w, p) -> left.of(w, p) == 1 || right.of(w, p) == 1 ? 1 : 0;
        }
        return t;
    }

    private Term both(int open) {
        Term t = one(open);
        while (see().equals("and")) {
            next++;
            Term left = t;
            Term right = one(open);
            t = (w, p) -> left.of(w, p) == 1 && right.of(w, p) == 1 ? 1 : 0;
        }
        return t;
    }

    private Term one(int open) {
        if (see().equals("not") || see().equals("(")) {
            if (open == 8) {
                throw fails(3);
            }
            boolean not = see().equals("not");
            next++;
            if (not) {
                Term t = one(open + 1);
                return (w, p) -> 1 - t.of(w, p);
            }
            Term t = either(open + 1);
            must(")");
            return t;
        }
        Term left = sum();
        String sign = see();
        must("<", "=", ">");
        Term right = sum();
        return (w, p) -> {
            int c = Integer.compare(left.of(w, p), right.of(w, p));
            return (sign.equals("<") ? c < 0 : sign.equals("=") ? c == 0 : c > 0) ? 1 : 0;
        };
    }

    int text(int k) {
        cutIntoTokens();
        fault = 0;
        place = -1;
        try {
            return tellText(k);
        } catch (Fault f) {
            fault = f.what;
            place = f.place;
            return -1;
        }
    }

    private int tellText(int k) {
        int all = w.persons.size() - 1;
        if (k == 0) {
            List<LawLine> law = new ArrayList<>();
            String word = see();
            while (another("spills", "throws", "runs")) {
                Term sum = sum();
                Term when = null;
                if (see().equals("when")) {
                    next++;
                    when = either(0);
                }
                must(";");
                law.add(new LawLine(word, sum, when));
                word = see();
            }
            w.law = law;
        } else if (k == 1) {
            List<int[]> lines = new ArrayList<>();
            while (another("seat")) {
                int seat = number(0, 15, -1);
                must("person");
                lines.add(new int[] {seat, number(0, all, -1)});
                must(";");
            }
            takeSeats(lines);
        } else if (k == 2) {
            List<WeatherLine> lines = new ArrayList<>();
            while (another("on")) {
                int day = number(0, 999, -1);
                String what = see();
                must("wet", "cattle", "feast", "scold", "die");
                int person = what.equals("scold") || what.equals("die") ? number(0, all, -1) : -1;
                int n = what.equals("wet") || what.equals("scold") ? number(0, 9, -1)
                        : what.equals("cattle") ? number(1, 999, -1) : -1;
                must(";");
                lines.add(new WeatherLine(day, what, person, n));
            }
            w.weather = lines;
            done.clear();
        } else if (k == 3) {
            List<int[]> lines = new ArrayList<>();
            while (another("person")) {
                int person = number(0, all, -1);
                must("heir");
                lines.add(new int[] {person, number(0, all, person)});
                must(";");
            }
            w.heirs = lines;
        } else {
            return -1;
        }
        // THE LAW and HEIRS are not undone: what is kept goes on with them.
        for (World kept : done) {
            kept.law = w.law;
            kept.heirs = w.heirs;
        }
        return textLines;
    }

    private void takeSeats(List<int[]> lines) {
        w.tableLines = lines.size();
        w.persons.forEach(p -> p.seat = -1);
        for (int[] line : lines) {
            Person p = alive(line[1]);
            if (p != null) {
                Person was = w.at(line[0]);
                if (was != null) {
                    was.seat = -1;
                }
                p.seat = line[0];
            }
        }
        done.clear();
    }

    int fault(int what) {
        return what == 0 ? fault : what == 1 ? place : -1;
    }

    int of(int person, int what) {
        if (person < 0 || person >= w.persons.size()) {
            return -2;
        }
        Person p = w.persons.get(person);
        return switch (what) {
            case 0 -> p.belief;
            case 1 -> p.salt;
            case 2 -> p.spilt;
            case 3 -> p.thrown;
            case 4 -> p.licked;
            case 5 -> p.alive ? 1 : 0;
            case 6 -> p.seat;
            case 7 -> w.asks(p, "spills");
            case 8 -> w.asks(p, "throws");
            case 9 -> w.asks(p, "runs");
            case 10 -> w.heirOf(p) == null ? -1 : w.persons.indexOf(w.heirOf(p));
            default -> -2;
        };
    }

    int book(int i, int what) {
        return i < 0 || i >= w.book.size() || what < 0 || what > 3 ? -1 : w.book.get(i)[what];
    }

    int goes(int n, int what) {
        if (n < 1 || n > 60 || what < 0 || what > 3) {
            return -1;
        }
        World t = w.thought();
        for (int i = 0; i < n; i++) {
            t.dayGoes();
        }
        return what == 1 ? t.run
                : t.persons.stream().mapToInt(p -> what == 0 ? p.salt : what == 2 ? p.spilt : p.licked).sum();
    }

    int high(int person, int v) {
        if (alive(person) == null || v < 1 || v > 9999) {
            return -1;
        }
        World t = w.thought();
        for (int i = 0; i <= 60; i++) {
            Person p = t.persons.get(person);
            if (!p.alive) {
                return -1;
            }
            if (p.salt >= v) {
                return i;
            }
            t.dayGoes();
        }
        return -1;
    }

    int door(int what) {
        int[] best = {0, -1, -1};
        for (int a = 0; a < 16; a++) {
            for (int b = a; b < 16; b++) {
                int least = 9999;
                for (int s = a; s <= b; s++) {
                    least = Math.min(least, w.at(s) == null ? 0 : w.at(s).salt / 100);
                }
                if (least * (b - a + 1) > best[0]) {
                    best = new int[] {least * (b - a + 1), a, b};
                }
            }
        }
        return what >= 0 && what <= 2 ? best[what] : -1;
    }

    private static LocalDate dateOf(int y, int m, int d) {
        if (y < 1600 || y > 2400 || m < 1 || m > 12 || d < 1 || d > LocalDate.of(y, m, 1).lengthOfMonth()) {
            return null;
        }
        return LocalDate.of(y, m, d);
    }

    boolean date(int y, int m, int d) {
        if (dateOf(y, m, d) == null) {
            return false;
        }
        w.since = dateOf(y, m, d);
        for (World kept : done) {
            kept.since = w.since;
        }
        return true;
    }

    int week(int y, int m, int d, int what) {
        LocalDate date = dateOf(y, m, d);
        if (date == null || what < 0 || what > 2) {
            return -1000000;
        }
        if (what == 0) {
            return date.getDayOfWeek().getValue() % 7;
        }
        if (what == 2) {
            return (int) (date.toEpochDay() - w.since.toEpochDay());
        }
        int n = 0;
        for (int month = 1; month <= 12; month++) {
            n += LocalDate.of(y, month, 13).getDayOfWeek().getValue() == 5 ? 1 : 0;
        }
        return n;
    }

    private int tell(String name, int v, int least, int most, int room) {
        List<Integer> row = w.row(name);
        if (v == -1) {
            row.clear();
        } else if (v < least || v > most || row.size() == room) {
            return -1;
        } else {
            row.add(v);
        }
        alsoInKept(name);
        return row.size();
    }

    /** What is told for thought is not undone. */
    private void alsoInKept(String name) {
        for (World kept : done) {
            kept.told.put(name, new ArrayList<>(w.row(name)));
        }
    }

    int point(int x, int y) {
        List<Integer> xs = w.row("x");
        List<Integer> ys = w.row("y");
        if (x == -1000) {
            xs.clear();
            ys.clear();
        } else {
            if (Math.abs((long) x) > 99 || Math.abs((long) y) > 99 || xs.size() == 8) {
                return -1;
            }
            for (int i = 0; i < xs.size(); i++) {
                if (xs.get(i) == x && ys.get(i) == y) {
                    return -1;
                }
            }
            xs.add(x);
            ys.add(y);
        }
        alsoInKept("x");
        alsoInKept("y");
        return xs.size();
    }

    private int cross(int a, int b, int p) {
        List<Integer> x = w.row("x");
        List<Integer> y = w.row("y");
        return (x.get(b) - x.get(a)) * (y.get(p) - y.get(a)) - (x.get(p) - x.get(a)) * (y.get(b) - y.get(a));
    }

    int side(int a, int b, int p) {
        int n = w.row("x").size();
        if (a < 0 || b < 0 || p < 0 || a >= n || b >= n || p >= n || a == b) {
            return -2;
        }
        return Integer.compare(cross(a, b, p), 0);
    }

    /** An edge of the outline has all others on its left, or straight within it. */
    int hull(int what) {
        List<Integer> x = w.row("x");
        List<Integer> y = w.row("y");
        int n = x.size();
        if (what < 0 || what > 1) {
            return -1;
        }
        boolean straight = true;
        for (int p = 2; p < n; p++) {
            straight &= cross(0, 1, p) == 0;
        }
        if (straight) {
            return what == 0 ? Math.min(n, 2) : 0;
        }
        int edges = 0;
        int area = 0;
        for (int a = 0; a < n; a++) {
            for (int b = 0; b < n; b++) {
                boolean edge = a != b;
                for (int p = 0; p < n && edge; p++) {
                    int dot = (x.get(a) - x.get(p)) * (x.get(b) - x.get(p)) + (y.get(a) - y.get(p)) * (y.get(b) - y.get(p));
                    edge = cross(a, b, p) > 0 || cross(a, b, p) == 0 && dot <= 0;
                }
                if (edge) {
                    edges++;
                    area += x.get(a) * y.get(b) - x.get(b) * y.get(a);
                }
            }
        }
        return what == 0 ? edges : area;
    }

    int turned(int n, int what) {
        if (n < 0 || n > 99999 || what < 0 || what > 1) {
            return -1;
        }
        long v = n;
        for (int k = 0; k <= 20; k++) {
            String s = Long.toString(v);
            String r = new StringBuilder(s).reverse().toString();
            if (v > 999999999) {
                return -1;
            }
            if (s.equals(r)) {
                return what == 0 ? k : (int) v;
            }
            v += Long.parseLong(r);
        }
        return -1;
    }

    int weight(int v) {
        return tell("weights", v, 1, 60, 6);
    }

    private int ways(List<Integer> weights, int from, int m) {
        if (from == weights.size()) {
            return m == 0 ? 1 : 0;
        }
        int v = weights.get(from);
        return ways(weights, from + 1, m) + ways(weights, from + 1, m - v) + ways(weights, from + 1, m + v);
    }

    int weighs(int m) {
        List<Integer> weights = w.row("weights");
        if (m == -1) {
            int n = 0;
            for (int i = 1; i <= 360; i++) {
                n += ways(weights, 0, i) > 0 ? 1 : 0;
            }
            return n;
        }
        return m < 0 || m > 360 ? -1 : ways(weights, 0, m);
    }

    int coins(int n, int h) {
        if (n < 1 || n > 100 || h < 0 || h > 1 || h == 0 && n == 2) {
            return -1;
        }
        if (h == 1) {
            return n == 1 ? 0 : n <= 3 ? 1 : n <= 9 ? 2 : n <= 27 ? 3 : n <= 81 ? 4 : 5;
        }
        return n == 1 ? 0 : n <= 4 ? 2 : n <= 13 ? 3 : n <= 40 ? 4 : 5;
    }

    /** Square by square, the open squares of the row ahead as a set. */
    int slabs(int n) {
        if (n < 0 || n > 40) {
            return -1;
        }
        Map<Integer, BigInteger> ways = new HashMap<>(Map.of(0, BigInteger.ONE));
        for (int i = 0; i < n; i++) {
            Map<Integer, BigInteger> then = new HashMap<>();
            ways.forEach((full, many) -> fill(full, 0, 0, many, then));
            ways = then;
        }
        return ways.getOrDefault(0, BigInteger.ZERO).mod(BigInteger.valueOf(1000000007)).intValue();
    }

    private static void fill(int full, int square, int beyond, BigInteger many, Map<Integer, BigInteger> then) {
        if (square == 3) {
            then.merge(beyond, many, BigInteger::add);
        } else if ((full >> square & 1) == 1) {
            fill(full, square + 1, beyond, many, then);
        } else {
            fill(full | 1 << square, square + 1, beyond | 1 << square, many, then);
            if (square < 2 && (full >> square + 1 & 1) == 0) {
                fill(full | 3 << square, square + 2, beyond, many, then);
            }
        }
    }

    int row(int which, int v) {
        return which < 0 || which > 1 ? -1 : tell("row" + which, v, 0, 9, 10);
    }

    int shadow(int what) {
        if (what < 0 || what > 1) {
            return -1;
        }
        List<Integer> row = w.row("row0");
        int ways = 0;
        for (int left = 0; left < 1 << row.size(); left++) {
            List<Integer> rest = new ArrayList<>();
            for (int i = 0; i < row.size(); i++) {
                if ((left >> i & 1) == 0) {
                    rest.add(row.get(i));
                }
            }
            ways += rest.equals(w.row("row1")) ? 1 : 0;
        }
        return what == 1 ? ways : ways > 0 ? 1 : 0;
    }

    int drip(int v) {
        return tell("drips", v, 2, 30, 6);
    }

    int drips(int n) {
        List<Integer> periods = w.row("drips");
        if (n == -1) {
            BigInteger all = BigInteger.ONE;
            for (int p : periods) {
                all = all.multiply(BigInteger.valueOf(p)).divide(all.gcd(BigInteger.valueOf(p)));
            }
            return periods.isEmpty() ? -1 : all.intValueExact();
        }
        if (n < 0 || n > 10000) {
            return -1;
        }
        int dry = 0;
        for (int m = 1; m <= n; m++) {
            int minute = m;
            dry += periods.stream().noneMatch(p -> minute % p == 0) ? 1 : 0;
        }
        return dry;
    }

    private static List<Integer> shortly(List<Integer> row) {
        List<Integer> out = new ArrayList<>();
        int i = 0;
        while (i < row.size()) {
            int j = i;
            while (j < row.size() && row.get(j).equals(row.get(i))) {
                j++;
            }
            out.add(j - i);
            out.add(row.get(i));
            i = j;
        }
        return out;
    }

    int told(int what) {
        List<Integer> out = shortly(w.row("row0"));
        if (what == 0) {
            return out.size();
        }
        if (what >= 100 && what < 100 + out.size()) {
            return out.get(what - 100);
        }
        if (what < 200 || what > 210) {
            return -1;
        }
        List<Integer> row = List.of(1);
        for (int i = 200; i < what; i++) {
            row = shortly(row);
        }
        return row.size();
    }

    int switches(int v, int what) {
        if (v < 0 || v > 1023 || what < 0 || what > 1) {
            return -1;
        }
        for (int i = 0; what == 1 && i < 1024; i++) {
            if ((i ^ i / 2) == v) {
                return i;
            }
        }
        return v ^ v / 2;
    }

    int stage(int v) {
        if (v != -1 && w.row("stages").contains(v)) {
            return w.row("stages").size();
        }
        return tell("stages", v, 1, 20, 6);
    }

    int voyage(int l, int what) {
        if (l < 1 || l > 200 || what < 0 || what > 1) {
            return -1;
        }
        Set<Integer> lengths = new HashSet<>(w.row("stages"));
        BigInteger[] rows = new BigInteger[l + 1];
        int[] fewest = new int[l + 1];
        rows[0] = BigInteger.ONE;
        for (int i = 1; i <= l; i++) {
            rows[i] = BigInteger.ZERO;
            fewest[i] = 99999;
            for (int s : lengths) {
                if (s <= i) {
                    rows[i] = rows[i].add(rows[i - s]);
                    fewest[i] = Math.min(fewest[i], fewest[i - s] + 1);
                }
            }
        }
        return what == 0 ? rows[l].mod(BigInteger.valueOf(1000000007)).intValue() : fewest[l] >= 99999 ? -1 : fewest[l];
    }

    int post(int place, int height) {
        List<Integer> places = w.row("places");
        List<Integer> heights = w.row("heights");
        if (place == -1) {
            places.clear();
            heights.clear();
        } else if (place < 1 || place > 99 || height < 1 || height > 60 || places.size() == 8) {
            return -1;
        } else {
            places.add(place);
            heights.add(height);
        }
        alsoInKept("places");
        alsoInKept("heights");
        return places.size();
    }

    int light(int h, int i, int what) {
        List<Integer> places = w.row("places");
        List<Integer> heights = w.row("heights");
        if (h < 1 || h > 60 || what < 0 || what > 2 || what < 2 && (i < 0 || i >= places.size())) {
            return -2;
        }
        if (what < 2) {
            if (h <= heights.get(i)) {
                return what == 0 ? 1 : 0;
            }
            BigInteger a = BigInteger.valueOf(h * places.get(i));
            BigInteger b = BigInteger.valueOf(h - heights.get(i));
            return (what == 0 ? a : b).divide(a.gcd(b)).intValue();
        }
        int lit = 0;
        for (int p = 0; p < places.size(); p++) {
            boolean is = true;
            for (int q = 0; q < places.size(); q++) {
                if (places.get(q) < places.get(p) || places.get(q).equals(places.get(p)) && q < p) {
                    // the ray's height there as a fraction of whole numbers
                    long top = (long) h * places.get(q) - (long) places.get(p) * (h - heights.get(q));
                    is &= top < (long) heights.get(p) * places.get(q);
                }
            }
            lit += is ? 1 : 0;
        }
        return lit;
    }

    int heap(int v) {
        return tell("heap", v, 0, 99, 8);
    }

    int heaped(int what) {
        List<Integer> heap = new ArrayList<>(w.row("heap"));
        int falls = 0;
        boolean more = true;
        while (more) {
            more = false;
            for (int i = heap.size() - 1; i >= 0 && !more; i--) {
                if (heap.get(i) >= (i == 0 ? 0 : heap.get(i - 1)) + 3) {
                    heap.set(i, heap.get(i) - 1);
                    if (i > 0) {
                        heap.set(i - 1, heap.get(i - 1) + 1);
                    }
                    falls++;
                    more = true;
                }
            }
        }
        return what == 0 ? falls : what >= 1 && what <= heap.size() ? heap.get(what - 1) : -1;
    }

    int game(int n, int what) {
        if (n < 1 || n > 300 || what < 0 || what > 2) {
            return -1;
        }
        int[] least = new int[n + 1];
        int many = 0;
        for (int i = 1; i <= n; i++) {
            least[i] = -1;
            for (int d = i - 1; d >= 1; d--) {
                if (i % d == 0 && least[i - d] == -1) {
                    least[i] = d;
                }
            }
            many += least[i] == -1 ? 0 : 1;
        }
        return what == 0 ? (least[n] == -1 ? 0 : 1) : what == 1 ? least[n] : many;
    }

    boolean undo() {
        if (done.isEmpty()) {
            return false;
        }
        w = done.removeLast();
        return true;
    }

    boolean image(boolean taken) {
        if (taken) {
            image = w.copy();
            return true;
        }
        if (image == null) {
            return false;
        }
        w = image.copy();
        done.clear();
        return true;
    }

    int look(int what) {
        if (what >= 20 && what < 36) {
            return w.at(what - 20) == null ? -1 : w.persons.indexOf(w.at(what - 20));
        }
        int set = 0;
        for (int i = 0; i < w.persons.size(); i++) {
            set += w.persons.get(i).alive ? 1 << i : 0;
        }
        return switch (what) {
            case 0 -> w.persons.size();
            case 1 -> set;
            case 2 -> w.wet;
            case 3 -> w.run;
            case 4 -> w.swept;
            case 5 -> w.day;
            case 6 -> w.tallest();
            case 7 -> w.book.size();
            case 8 -> w.state;
            case 9 -> w.law.size();
            case 10 -> w.tableLines;
            case 11 -> w.weather.size();
            case 12 -> w.heirs.size();
            case 13 -> done.size();
            default -> -100000;
        };
    }
}
