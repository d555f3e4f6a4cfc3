import java.util.Random;

/** Random runs on SaltFigures and on Plain: every answer must be the same. */
public final class OracleTest {
    private static final String[] WORDS = {"belief", "salt", "wet", "seat", "spilt", "thrown", "licked", "beside", "heirs", "day"};
    private static final int[] STRANGE = {Integer.MIN_VALUE, Integer.MAX_VALUE, -1000000, -1000, -2, -1, 0, 1, 2, 3, 15, 16, 59, 60, 61, 100, 120, 200, 211, 999, 1000, 9999, 10000};
    private final Random r;
    private final SaltFigures x = new SaltFigures();
    private final Plain y = new Plain();
    private final StringBuilder log = new StringBuilder();

    private OracleTest(long seed) {
        r = new Random(seed);
    }

    public static void main(String[] args) {
        int runs = args.length > 0 ? Integer.parseInt(args[0]) : 500;
        for (int seed = 0; seed < runs && !Checks.anyWrong(); seed++) {
            OracleTest t = new OracleTest(seed);
            for (int i = 0; i < 300 && !Checks.anyWrong(); i++) {
                t.step();
                t.compareAll();
            }
            if (Checks.anyWrong()) {
                System.out.println("seed " + seed + ":\n" + t.log);
            }
        }
        Checks.finish();
    }

    private void same(String call, long got, long want) {
        log.append(call).append(" -> ").append(got).append('\n');
        Checks.due(call, got, want);
    }

    private void same(String call, boolean got, boolean want) {
        same(call, got ? 1 : 0, want ? 1 : 0);
    }

    private int n(int least, int most) {
        return r.nextInt(40) == 0 ? STRANGE[r.nextInt(STRANGE.length)] : least + r.nextInt(most - least + 1);
    }

    private void compareAll() {
        for (int i = -1; i < 38; i++) {
            Checks.due("look(" + i + ")", x.look(i), y.look(i));
        }
        for (int p = -1; p <= y.look(0); p++) {
            for (int i = -1; i < 12; i++) {
                Checks.due("of(" + p + ", " + i + ")", x.of(p, i), y.of(p, i));
            }
        }
        int lines = y.look(7);
        for (int i = Math.max(-1, lines - 20); i <= lines; i++) {
            for (int k = -1; k < 5; k++) {
                Checks.due("book(" + i + ", " + k + ")", x.book(i, k), y.book(i, k));
            }
        }
        for (int i = -1; i < 4; i++) {
            Checks.due("fault(" + i + ")", x.fault(i), y.fault(i));
            Checks.due("door(" + i + ")", x.door(i), y.door(i));
        }
    }

    private void step() {
        int kind = r.nextInt(100);
        if (kind < 8) {
            int b = n(0, 9);
            same("person(" + b + ")", x.person(b), y.person(b));
        } else if (kind < 12) {
            int v = r.nextInt();
            same("state(" + v + ")", x.state(v), y.state(v));
        } else if (kind < 20) {
            setSomething();
        } else if (kind < 38) {
            int what = r.nextInt(5) == 0 ? n(0, 5) : n(0, 2);
            int who = n(0, Math.max(0, y.look(0) - 1));
            int v = n(0, 15);
            same("act(" + what + ", " + who + ", " + v + ")", x.act(what, who, v), y.act(what, who, v));
        } else if (kind < 50) {
            int d = r.nextInt(4) == 0 ? n(1, 60) : n(1, 3);
            same("days(" + d + ")", x.days(d), y.days(d));
        } else if (kind < 68) {
            tellText();
        } else if (kind < 76) {
            same("undo()", x.undo(), y.undo());
        } else if (kind < 79) {
            boolean taken = r.nextBoolean();
            same("image(" + taken + ")", x.image(taken), y.image(taken));
        } else if (kind < 86) {
            thinkOfDays();
        } else {
            think();
        }
    }

    private void setSomething() {
        int what = n(0, 2);
        int who = n(0, Math.max(0, y.look(0) - 1));
        int v = what == 1 ? (r.nextInt(3) == 0 ? n(9800, 9999) : n(0, 3000)) : n(0, 9);
        same("set(" + what + ", " + who + ", " + v + ")", x.set(what, who, v), y.set(what, who, v));
    }

    private void thinkOfDays() {
        int d = n(1, 60);
        for (int what = -1; what < 5; what++) {
            same("goes(" + d + ", " + what + ")", x.goes(d, what), y.goes(d, what));
        }
        int who = n(0, 15);
        int v = n(1, 9999) / (1 + r.nextInt(20));
        same("high(" + who + ", " + v + ")", x.high(who, v), y.high(who, v));
    }

    private void tellText() {
        int k = n(0, 3);
        String text = switch (k) {
            case 0 -> law();
            case 1 -> table();
            case 2 -> weather();
            default -> heirs();
        };
        if (r.nextInt(3) == 0) {
            text = spoilt(text);
        }
        if (text.length() > 400) {
            text = text.substring(0, r.nextBoolean() ? 400 : text.lastIndexOf(';', 399) + 1);
        }
        for (int i = 0; i < text.length(); i += 20) {
            int[] v = new int[5];
            for (int j = 0; j < 20; j++) {
                int c = i + j < text.length() ? text.charAt(i + j) : r.nextInt(256);
                v[j / 4] = v[j / 4] << 8 | c;
            }
            same("feed", x.feed(v[0], v[1], v[2], v[3], v[4]), y.feed(v[0], v[1], v[2], v[3], v[4]));
        }
        int end = r.nextInt(50) == 0 ? n(0, 400) : text.length();
        same("end(" + end + ")", x.end(end), y.end(end));
        if (r.nextInt(100) == 0) {
            return;
        }
        log.append("'").append(text).append("'\n");
        same("text(" + k + ")", x.text(k), y.text(k));
    }

    private String blank() {
        return new String[] {" ", "  ", "\n", " \n "}[r.nextInt(12) == 0 ? r.nextInt(4) : 0];
    }

    private String maybeBlank() {
        return r.nextInt(8) == 0 ? blank() : "";
    }

    private int lineCount() {
        return r.nextInt(12) == 0 ? 15 + r.nextInt(4) : r.nextInt(7);
    }

    private int whom() {
        int count = y.look(0);
        return r.nextInt(40) == 0 ? count : r.nextInt(Math.max(1, count));
    }

    private String law() {
        StringBuilder s = new StringBuilder(maybeBlank());
        int lines = lineCount();
        for (int i = 0; i < lines; i++) {
            s.append(new String[] {"spills", "throws", "runs"}[r.nextInt(3)]).append(blank()).append(sum());
            if (r.nextInt(3) > 0) {
                s.append(blank()).append("when").append(blank()).append(condition(r.nextInt(12) == 0 ? 10 : 2));
            }
            s.append(maybeBlank()).append(';').append(maybeBlank());
        }
        return s.toString();
    }

    private String unit() {
        return r.nextInt(5) < 2 ? Integer.toString(r.nextInt(r.nextInt(3) == 0 ? 10000 : 600)) : WORDS[r.nextInt(WORDS.length)];
    }

    private String sum() {
        StringBuilder s = new StringBuilder(unit());
        while (r.nextInt(5) < 2) {
            s.append(maybeBlank());
            switch (r.nextInt(4)) {
                case 0 -> s.append('+').append(maybeBlank()).append(unit());
                case 1 -> s.append('-').append(maybeBlank()).append(unit());
                case 2 -> s.append('*').append(maybeBlank()).append(unit());
                default -> s.append('/').append(maybeBlank()).append(r.nextInt(30) == 0 ? "0" : Integer.toString(1 + r.nextInt(99)));
            }
        }
        return s.toString();
    }

    private String condition(int depth) {
        StringBuilder s = new StringBuilder(simple(depth));
        while (r.nextInt(10) < 3) {
            s.append(blank()).append(r.nextBoolean() ? "and" : "or").append(blank()).append(simple(depth - 1));
        }
        return s.toString();
    }

    private String simple(int depth) {
        int kind = depth > 5 ? r.nextInt(8) : r.nextInt(4);
        if (depth > 0 && (kind == 0 || kind > 5)) {
            return "(" + maybeBlank() + condition(depth - 1) + maybeBlank() + ")";
        }
        if (depth > 0 && (kind == 1 || kind > 3)) {
            return "not" + blank() + simple(depth - 1);
        }
        return sum() + maybeBlank() + "<=>".charAt(r.nextInt(3)) + maybeBlank() + sum();
    }

    private String table() {
        StringBuilder s = new StringBuilder();
        int lines = lineCount();
        for (int i = 0; i < lines; i++) {
            s.append("seat").append(blank()).append(r.nextInt(r.nextInt(30) == 0 ? 20 : 6)).append(blank())
                    .append("person").append(blank()).append(whom()).append(';').append(maybeBlank());
        }
        return s.toString();
    }

    private String weather() {
        StringBuilder s = new StringBuilder();
        int lines = lineCount();
        for (int i = 0; i < lines; i++) {
            int day = r.nextInt(30) == 0 ? r.nextInt(1010) : y.look(5) + r.nextInt(6);
            s.append("on").append(blank()).append(day).append(blank());
            switch (r.nextInt(6)) {
                case 0 -> s.append("wet").append(blank()).append(r.nextInt(r.nextInt(20) == 0 ? 12 : 10));
                case 1 -> s.append("cattle").append(blank()).append(r.nextInt(r.nextInt(3) == 0 ? 1001 : 50) + (r.nextInt(20) == 0 ? 0 : 1));
                case 2 -> s.append("scold").append(blank()).append(whom()).append(blank()).append(r.nextInt(r.nextInt(20) == 0 ? 12 : 10));
                case 3 -> s.append(r.nextInt(3) == 0 ? "die" + blank() + whom() : "feast");
                default -> s.append("feast");
            }
            s.append(maybeBlank()).append(';').append(maybeBlank());
        }
        return s.toString();
    }

    private String heirs() {
        StringBuilder s = new StringBuilder();
        int lines = lineCount();
        for (int i = 0; i < lines; i++) {
            int p = whom();
            int q = whom();
            if (q == p && r.nextInt(10) > 0) {
                q = (p + 1) % Math.max(1, y.look(0));
            }
            s.append("person").append(blank()).append(p).append(blank()).append("heir").append(blank()).append(q).append(";").append(maybeBlank());
        }
        return s.toString();
    }

    private String spoilt(String text) {
        StringBuilder s = new StringBuilder(text);
        int times = 1 + r.nextInt(2);
        for (int i = 0; i < times; i++) {
            int at = r.nextInt(s.length() + 1);
            switch (r.nextInt(6)) {
                case 0 -> s.insert(at, (char) r.nextInt(256));
                case 1 -> s.insert(at, ";+-*/()<=> \n09aZ".charAt(r.nextInt(16)));
                case 2 -> s.insert(at, new String[] {" not ", " when ", " and ", "person", "12345", " seat ", "((((((((((", " 7 "}[r.nextInt(8)]);
                case 3 -> s.setLength(at);
                default -> {
                    if (at < s.length()) {
                        s.deleteCharAt(at);
                    }
                }
            }
        }
        return s.toString();
    }

    private void think() {
        switch (r.nextInt(12)) {
            case 0 -> weeks();
            case 1 -> points();
            case 2 -> {
                int v = n(0, 99999);
                same("turned(" + v + ", 0)", x.turned(v, 0), y.turned(v, 0));
                same("turned(" + v + ", 1)", x.turned(v, 1), y.turned(v, 1));
                same("turned(" + v + ", 2)", x.turned(v, 2), y.turned(v, 2));
            }
            case 3 -> {
                int v = n(1, 60);
                int m = n(0, 120);
                same("weight(" + v + ")", x.weight(v), y.weight(v));
                same("weighs(" + m + ")", x.weighs(m), y.weighs(m));
                same("weighs(-1)", x.weighs(-1), y.weighs(-1));
            }
            case 4 -> rows();
            case 5 -> {
                int v = n(2, 30);
                int m = n(0, 10000);
                same("drip(" + v + ")", x.drip(v), y.drip(v));
                same("drips(" + m + ")", x.drips(m), y.drips(m));
                same("drips(-1)", x.drips(-1), y.drips(-1));
            }
            case 6 -> {
                int v = n(1, 20);
                int l = n(1, 200);
                same("stage(" + v + ")", x.stage(v), y.stage(v));
                for (int what = -1; what < 3; what++) {
                    same("voyage(" + l + ", " + what + ")", x.voyage(l, what), y.voyage(l, what));
                }
            }
            case 7 -> lights();
            case 8 -> {
                int v = n(0, 99);
                same("heap(" + v + ")", x.heap(v), y.heap(v));
                for (int what = -1; what < 10; what++) {
                    same("heaped(" + what + ")", x.heaped(what), y.heaped(what));
                }
            }
            default -> sums();
        }
    }

    private void weeks() {
        int year = n(1600, 2400);
        int m = n(1, 12);
        int d = n(1, 31);
        if (r.nextInt(3) == 0) {
            same("date(" + year + ", " + m + ", " + d + ")", x.date(year, m, d), y.date(year, m, d));
        }
        for (int what = -1; what < 4; what++) {
            same("week(" + year + ", " + m + ", " + d + ", " + what + ")", x.week(year, m, d, what), y.week(year, m, d, what));
        }
    }

    private void points() {
        int far = r.nextBoolean() ? 3 : 99;
        for (int i = 0; i < 2; i++) {
            int a = r.nextInt(20) == 0 ? -1000 : n(-far, far);
            int b = n(-far, far);
            same("point(" + a + ", " + b + ")", x.point(a, b), y.point(a, b));
        }
        int a = n(0, 4);
        int b = n(0, 4);
        int p = n(0, 7);
        same("side(" + a + ", " + b + ", " + p + ")", x.side(a, b, p), y.side(a, b, p));
        for (int what = -1; what < 3; what++) {
            same("hull(" + what + ")", x.hull(what), y.hull(what));
        }
    }

    private void rows() {
        for (int i = 0; i < 3; i++) {
            int which = r.nextInt(3) == 0 ? n(0, 1) : 0;
            int v = r.nextInt(15) == 0 ? -1 : n(0, 3);
            same("row(" + which + ", " + v + ")", x.row(which, v), y.row(which, v));
        }
        for (int what = -1; what < 3; what++) {
            same("shadow(" + what + ")", x.shadow(what), y.shadow(what));
        }
        for (int what : new int[] {0, 1, 99, 100, 101, 102 + r.nextInt(20), 199, 200 + r.nextInt(11), 211}) {
            same("told(" + what + ")", x.told(what), y.told(what));
        }
    }

    private void lights() {
        int place = n(1, 99) / (1 + r.nextInt(20));
        int height = n(1, 60);
        same("post(" + place + ", " + height + ")", x.post(place, height), y.post(place, height));
        int h = n(1, 60);
        int i = n(0, 7);
        for (int what = -1; what < 4; what++) {
            same("light(" + h + ", " + i + ", " + what + ")", x.light(h, i, what), y.light(h, i, what));
        }
    }

    private void sums() {
        int c = n(1, 100);
        int s = n(0, 40);
        int v = n(0, 1023);
        int g = n(1, 300);
        for (int what = -1; what < 4; what++) {
            same("coins(" + c + ", " + what + ")", x.coins(c, what), y.coins(c, what));
            same("switches(" + v + ", " + what + ")", x.switches(v, what), y.switches(v, what));
            same("game(" + g + ", " + what + ")", x.game(g, what), y.game(g, what));
        }
        same("slabs(" + s + ")", x.slabs(s), y.slabs(s));
    }
}
