/** The sentences of promises 1 to 6, 11, 12 and 41 that name a bound: the last number taken, the first that is not. */
public final class PortBoundsTest {
    private static final int MIN = Integer.MIN_VALUE;
    private static final int MAX = Integer.MAX_VALUE;

    public static void main(String[] args) {
        calls();
        nobody();
        stateWraps();
        drawHasNoSign();
        drawsOfThousand();
        beliefs();
        sixteen();
        settingBelief();
        settingSalt();
        settingWet();
        actingWhat();
        actingAlone();
        spilling();
        sitting();
        rising();
        sweeping();
        dying();
        dayCounts();
        lastDay();
        ofWhom();
        ofTheDead();
        bookLines();
        bookIsFull();
        bookIsFullAmidADeath();
        looks();
        tallest();
        Checks.finish();
    }

    private static void says(String sentence) {
        Checks.says(sentence);
    }

    private static void due(String call, long got, long want) {
        Checks.due(call, got, want);
    }

    private static void due(String call, boolean got, boolean want) {
        Checks.due(call, got, want);
    }

    private static void calls() {
        says("An object is used for at most 512 calls after it has been made");
        SaltFigures x = new SaltFigures();
        x.person(9);
        for (int i = 0; i < 510; i++) {
            x.act(0, 0, 0);
        }
        due("the 512th call, of(0, 3)", x.of(0, 3), 510 * 90);
    }

    private static void nobody() {
        says("1: Nobody at the table.");
        SaltFigures x = new SaltFigures();
        due("look(0)", x.look(0), 0);
        due("look(1)", x.look(1), 0);
        for (int p : new int[] {MIN, -1, 0, 1, 15, 16, MAX}) {
            for (int what = 0; what <= 10; what++) {
                due("of(" + p + ", " + what + ")", x.of(p, what), -2);
            }
            Checks.refused(x, "set(0, " + p + ", 1)", () -> x.set(0, p, 1));
            Checks.refused(x, "set(1, " + p + ", 1)", () -> x.set(1, p, 1));
            for (int what = 0; what <= 4; what++) {
                int w = what;
                Checks.refused(x, "act(" + w + ", " + p + ", 0)", () -> x.act(w, p, 0));
            }
            due("high(" + p + ", 1)", x.high(p, 1), -1);
        }
        for (int what = 0; what < 4; what++) {
            due("book(0, " + what + ")", x.book(0, what), -1);
            due("goes(60, " + what + ")", x.goes(60, what), 0);
        }
        due("days(60)", x.days(60), 0);
        due("no DRAW without a PERSON, look(8)", x.look(8), 0);
    }

    /** The STATE out of which the next DRAW makes that one. */
    private static int ahead(int next) {
        int inverse = 1664525;
        for (int i = 0; i < 5; i++) {
            inverse *= 2 - 1664525 * inverse;
        }
        return (next - 1013904223) * inverse;
    }

    private static void stateWraps() {
        SaltFigures x = Checks.withPersons(0);
        says("2: STATE is told: what it was. (STATE: an int, 0 at first)");
        int was = 0;
        for (int v : new int[] {MAX, MIN, -1, 1, 0}) {
            due("state(" + v + ")", x.state(v), was);
            due("look(8)", x.look(8), v);
            was = v;
        }
        says("it becomes 1664525 times itself + 1013904223 (ints, which wrap)");
        int[][] next = {{0, 1013904223}, {1, 1015568748}, {-1, 1012239698}, {MAX, -1135243950}, {MIN, -1133579425}};
        for (int[] n : next) {
            x.state(n[0]);
            x.days(1);
            due("look(8) behind a DRAW out of " + n[0], x.look(8), n[1]);
            due("ahead(" + n[1] + ")", ahead(n[1]), n[0]);
        }
    }

    private static int spiltWith(int spills, int next) {
        SaltFigures x = Checks.withPersons(1);
        Checks.tell(x, 0, "spills " + spills + ";", 1);
        x.state(ahead(next));
        int spilt = x.days(1);
        due("STATE behind the DRAW, spills " + spills, x.look(8), spills == 0 ? ahead(next) : next);
        due("SPILT is what days(1) answered", x.of(0, 2), spilt);
        return spilt;
    }

    private static void drawHasNoSign() {
        says("then it is its highest 24 bits (without sign) modulo m");
        due("a DRAW of 669, spills 669", spiltWith(669, -1135243950), 0);
        due("a DRAW of 669, spills 670", spiltWith(670, -1135243950), 1);
        due("all bits: 16777215, spills 215", spiltWith(215, -1), 0);
        due("all bits: 16777215, spills 216", spiltWith(216, -1), 1);
        due("the first bit alone: 8388608, spills 608", spiltWith(608, MIN), 0);
        due("the first bit alone: 8388608, spills 609", spiltWith(609, MIN), 1);
        due("all bits but the first: 8388607, spills 607", spiltWith(607, MAX), 0);
        due("all bits but the first: 8388607, spills 608", spiltWith(608, MAX), 1);
        due("the lowest 8 bits alone: 0, spills 1", spiltWith(1, 255), 1);
        due("the lowest bit above them: 1, spills 1", spiltWith(1, 256), 0);
    }

    private static void drawsOfThousand() {
        says("spills is asked, is it above 0, a DRAW of 1000: below it he spills");
        due("spills 0, no DRAW", spiltWith(0, 0), 0);
        due("a DRAW of 0, spills 1", spiltWith(1, 0), 1);
        due("a DRAW of 1, spills 1", spiltWith(1, 1 << 8), 0);
        due("a DRAW of 2, spills 1", spiltWith(1, 2 << 8), 0);
        due("a DRAW of 999, spills 1", spiltWith(1, 999 << 8), 0);
        due("a DRAW of 0, spills 1000", spiltWith(1000, 0), 1);
        due("a DRAW of 998, spills 999", spiltWith(999, 998 << 8), 1);
        due("a DRAW of 999, spills 999", spiltWith(999, 999 << 8), 0);
        due("a DRAW of 999, spills 1000", spiltWith(1000, 999 << 8), 1);
        due("1000 makes a DRAW of 0, spills 1", spiltWith(1, 1000 << 8), 1);
        due("1999 makes a DRAW of 999, spills 999", spiltWith(999, 1999 << 8), 0);
    }

    private static void beliefs() {
        says("3: BELIEF 0 .. 9 (0: a sceptic)");
        SaltFigures x = new SaltFigures();
        x.days(1);
        for (int b : new int[] {MIN, -2, -1, 10, 11, MAX}) {
            Checks.refused(x, "person(" + b + ")", () -> x.person(b), -1);
        }
        for (int b = 0; b <= 9; b++) {
            due("person(" + b + ")", x.person(b), b);
            due("of(" + b + ", 0)", x.of(b, 0), b);
            due("of(" + b + ", 8)", x.of(b, 8), 10 * b);
        }
        due("look(0)", x.look(0), 10);
    }

    private static void sixteen() {
        says("PERSONS 0 .. 15 as they come");
        SaltFigures x = new SaltFigures();
        for (int i = 0; i < 16; i++) {
            due("of(" + i + ", 0) ahead of him", x.of(i, 0), -2);
            due("person(3)", x.person(3), i);
            due("of(" + i + ", 0)", x.of(i, 0), 3);
            due("look(1)", x.look(1), (1 << i + 1) - 1);
        }
        says("3: NONE if one can't be, or there are sixteen");
        x.act(4, 15, 0);
        x.act(4, 0, 0);
        due("look(1)", x.look(1), 0x7ffe);
        for (int b : new int[] {-1, 0, 9, 10}) {
            Checks.refused(x, "person(" + b + ") of sixteen", () -> x.person(b), -1);
        }
        due("look(0)", x.look(0), 16);
        for (int p : new int[] {MIN, -1, 16, 17, MAX}) {
            for (int what = 0; what <= 10; what++) {
                due("of(" + p + ", " + what + ") of sixteen", x.of(p, what), -2);
            }
            for (int what = 0; what <= 4; what++) {
                int w = what;
                Checks.refused(x, "act(" + w + ", " + p + ", 1) of sixteen", () -> x.act(w, p, 1));
            }
            Checks.refused(x, "set(0, " + p + ", 1) of sixteen", () -> x.set(0, p, 1));
            Checks.refused(x, "set(1, " + p + ", 1) of sixteen", () -> x.set(1, p, 1));
            Checks.refused(x, "high(" + p + ", 1) of sixteen", () -> x.high(p, 1), -1);
        }
        due("set(1, 14, 9)", x.set(1, 14, 9), true);
        due("of(14, 1)", x.of(14, 1), 9);
        due("look(6)", x.look(6), 14);
    }

    private static SaltFigures threeOneDead() {
        SaltFigures x = Checks.withPersons(5, 6, 7);
        x.set(1, 1, 77);
        x.set(1, 2, 50);
        x.act(4, 2, 0);
        x.act(1, 0, 4);
        return x;
    }

    private static void settingBelief() {
        SaltFigures x = threeOneDead();
        says("4: What 0 BELIEF of PERSON who (ALIVE): false if one can't be");
        for (int v : new int[] {MIN, -1, 10, MAX}) {
            Checks.refused(x, "set(0, 0, " + v + ")", () -> x.set(0, 0, v));
        }
        for (int who : new int[] {MIN, -1, 2, 3, 15, 16, MAX}) {
            Checks.refused(x, "set(0, " + who + ", 5)", () -> x.set(0, who, 5));
        }
        for (int v : new int[] {9, 0}) {
            due("set(0, 1, " + v + ")", x.set(0, 1, v), true);
            due("of(1, 0)", x.of(1, 0), v);
        }
        due("of(0, 0) stays", x.of(0, 0), 5);
        says("4: false if another what");
        for (int what : new int[] {MIN, -1, 3, 4, MAX}) {
            Checks.refused(x, "set(" + what + ", 0, 5)", () -> x.set(what, 0, 5));
        }
    }

    private static void settingSalt() {
        SaltFigures x = threeOneDead();
        says("4: 1 SALT of PERSON who (ALIVE) (SALT 0 .. 9999): false if one can't be");
        for (int v : new int[] {MIN, -1, 10000, MAX}) {
            Checks.refused(x, "set(1, 0, " + v + ")", () -> x.set(1, 0, v));
        }
        for (int who : new int[] {MIN, -1, 2, 3, 15, 16, MAX}) {
            Checks.refused(x, "set(1, " + who + ", 5)", () -> x.set(1, who, 5));
        }
        for (int v : new int[] {9999, 0}) {
            due("set(1, 0, " + v + ")", x.set(1, 0, v), true);
            due("of(0, 1)", x.of(0, 1), v);
        }
        due("of(1, 1) stays", x.of(1, 1), 77);
    }

    private static void settingWet() {
        SaltFigures x = threeOneDead();
        says("4: 2 WET (who not asked) (WET 0 .. 9)");
        for (int who : new int[] {MIN, -1, 2, 16, MAX}) {
            for (int v : new int[] {9, 0, 8}) {
                due("set(2, " + who + ", " + v + ")", x.set(2, who, v), true);
                due("look(2)", x.look(2), v);
            }
        }
        for (int v : new int[] {MIN, -1, 10, MAX}) {
            Checks.refused(x, "set(2, 0, " + v + ")", () -> x.set(2, 0, v));
        }
        due("of no PERSON", new SaltFigures().set(2, 0, 9), true);
    }

    private static void actingWhat() {
        SaltFigures x = threeOneDead();
        says("5: false if it can't be, or another what");
        for (int what : new int[] {MIN, -1, 5, 6, MAX}) {
            Checks.refused(x, "act(" + what + ", 0, 0)", () -> x.act(what, 0, 0));
        }
        says("5: for PERSON who (ALIVE)");
        for (int who : new int[] {MIN, -1, 2, 3, 15, 16, MAX}) {
            for (int what = 0; what <= 4; what++) {
                int w = what;
                Checks.refused(x, "act(" + w + ", " + who + ", 9)", () -> x.act(w, who, 9));
            }
        }
        says("5: all but 1: v not asked");
        for (int v : new int[] {MIN, -1, 16, MAX}) {
            SaltFigures y = threeOneDead();
            due("act(0, 0, " + v + ")", y.act(0, 0, v), true);
            due("act(2, 0, " + v + ")", y.act(2, 0, v), true);
            due("act(3, 0, " + v + ")", y.act(3, 0, v), true);
            due("act(4, 0, " + v + ")", y.act(4, 0, v), true);
        }
    }

    private static void actingAlone() {
        says("5: for PERSON who (ALIVE) to SPILL, .. to SIT .., to RISE .., to SWEEP .., to DIE (each alone)");
        int[][] then = {{57, 1, 50, 1, -1}, {7, 0, 0, 1, 3}, {7, 0, 0, 1, -1}, {0, 0, 0, 1, -1}, {0, 0, 0, 0, -1}};
        int[] fields = {1, 2, 3, 5, 6};
        for (int what = 0; what <= 4; what++) {
            SaltFigures x = Checks.withPersons(5, 6);
            x.set(1, 0, 7);
            x.set(1, 1, 8);
            x.act(1, 1, 9);
            if (what == 2) {
                x.act(1, 0, 3);
            }
            due("act(" + what + ", 0, 3)", x.act(what, 0, 3), true);
            for (int i = 0; i < 5; i++) {
                due("of(0, " + fields[i] + ") behind act(" + what + ", 0, 3)", x.of(0, fields[i]), then[what][i]);
            }
            due("look(23) behind act(" + what + ", 0, 3)", x.look(23), what == 1 ? 0 : -1);
            due("look(4) behind act(" + what + ", 0, 3)", x.look(4), what >= 3 ? 7 : 0);
            due("look(7) behind act(" + what + ", 0, 3)", x.look(7), what == 1 || what == 2 ? 0 : 1);
            due("of(1, 1), another PERSON", x.of(1, 1), 8);
            due("of(1, 6), another PERSON", x.of(1, 6), 9);
            due("look(3)", x.look(3), 0);
            due("look(5)", x.look(5), 0);
            due("look(8)", x.look(8), 0);
        }
    }

    private static void spilling() {
        says("to SPILL (one ALIVE, as in (b), spills not asked)");
        SaltFigures x = Checks.withPersons(1);
        Checks.tell(x, 0, "spills 0;throws 1;", 2);
        x.set(1, 0, 9998);
        int state = x.look(8);
        due("act(0, 0, 0)", x.act(0, 0, 0), true);
        due("no DRAW, look(8)", x.look(8), state);
        due("of(0, 2)", x.of(0, 2), 1);
        says("THROWN so much more, SALT, too (9999 at most; the rest is SWEPT)");
        due("of(0, 1)", x.of(0, 1), 9999);
        due("look(4)", x.look(4), 0);
        x.act(0, 0, 0);
        due("of(0, 1) full", x.of(0, 1), 9999);
        due("of(0, 3) full", x.of(0, 3), 2);
        due("look(4) full", x.look(4), 1);
        Checks.tell(x, 0, "throws 999;", 1);
        x.set(1, 0, 9000);
        x.act(0, 0, 0);
        due("9000 and 999, of(0, 1)", x.of(0, 1), 9999);
        due("9000 and 999, look(4)", x.look(4), 1);
        x.set(1, 0, 9001);
        x.act(0, 0, 0);
        due("9001 and 999, of(0, 1)", x.of(0, 1), 9999);
        due("9001 and 999, look(4)", x.look(4), 2);
        due("of(0, 3)", x.of(0, 3), 2 + 2 * 999);
        says("THE BOOK: 0: throws");
        int[] much = {1, 1, 999, 999};
        for (int i = 0; i < 4; i++) {
            due("book(" + i + ", 3)", x.book(i, 3), much[i]);
        }
        Checks.tell(x, 0, "throws 0;", 1);
        x.act(0, 0, 0);
        due("book(4, 1) of nothing thrown", x.book(4, 1), 0);
        due("book(4, 3) of nothing thrown", x.book(4, 3), 0);
    }

    private static void sitting() {
        SaltFigures x = threeOneDead();
        says("5: 1 to SIT on SEAT v (SEAT 0 .. 15)");
        for (int v : new int[] {MIN, -2, -1, 16, 17, MAX}) {
            Checks.refused(x, "act(1, 1, " + v + ")", () -> x.act(1, 1, v));
        }
        for (int v = 0; v < 16; v++) {
            boolean free = v != 4;
            due("act(1, 1, " + v + ")", x.act(1, 1, v), free);
            due("of(1, 6)", x.of(1, 6), free ? v : -1);
            due("look(" + (20 + v) + ")", x.look(20 + v), free ? 1 : 0);
            x.act(2, 1, 0);
        }
        says("5: (he has none, it is free)");
        Checks.refused(x, "act(1, 1, 4), not free", () -> x.act(1, 1, 4));
        Checks.refused(x, "act(1, 0, 4), his own", () -> x.act(1, 0, 4));
        Checks.refused(x, "act(1, 0, 5), he has one", () -> x.act(1, 0, 5));
        says("5: 2 to RISE (he has one)");
        due("act(2, 0, 0)", x.act(2, 0, 0), true);
        says("Two never have one SEAT");
        due("act(1, 1, 4), free again", x.act(1, 1, 4), true);
        due("look(24)", x.look(24), 1);
        due("of(0, 6)", x.of(0, 6), -1);
    }

    private static void rising() {
        SaltFigures x = threeOneDead();
        says("5: 2 to RISE (he has one)");
        Checks.refused(x, "act(2, 1, 0), he has none", () -> x.act(2, 1, 0));
        due("act(2, 0, 0)", x.act(2, 0, 0), true);
        due("of(0, 6)", x.of(0, 6), -1);
        due("look(24)", x.look(24), -1);
        Checks.refused(x, "act(2, 0, 0) again", () -> x.act(2, 0, 0));
        for (int seat : new int[] {0, 15}) {
            x.act(1, 0, seat);
            due("act(2, 0, 0) from SEAT " + seat, x.act(2, 0, 0), true);
            due("look(" + (20 + seat) + ")", x.look(20 + seat), -1);
        }
    }

    private static void sweeping() {
        SaltFigures x = Checks.withPersons(5, 5);
        x.days(1);
        x.set(1, 0, 0);
        says("5: 3 to SWEEP (he has SALT)");
        Checks.refused(x, "act(3, 0, 0) of 0", () -> x.act(3, 0, 0));
        int lines = x.look(7);
        int swept = 0;
        for (int salt : new int[] {1, 9999}) {
            x.set(1, 0, salt);
            due("act(3, 0, 0) of " + salt, x.act(3, 0, 0), true);
            swept += salt;
            due("of(0, 1)", x.of(0, 1), 0);
            due("look(4)", x.look(4), swept);
            says("THE BOOK: 4: SALT");
            due("book what", x.book(lines, 1), 4);
            due("book how much", x.book(lines, 3), salt);
            lines++;
        }
        due("look(7)", x.look(7), lines);
    }

    private static void dying() {
        says("5: 4 to DIE");
        SaltFigures x = Checks.withPersons(5, 5);
        x.act(1, 0, 15);
        due("act(4, 0, 0) without SALT", x.act(4, 0, 0), true);
        due("of(0, 5)", x.of(0, 5), 0);
        due("of(0, 6)", x.of(0, 6), -1);
        due("look(35)", x.look(35), -1);
        due("look(1)", x.look(1), 2);
        due("look(4)", x.look(4), 0);
        says("THE BOOK: 5: SALT he had");
        due("book(0, 1)", x.book(0, 1), 5);
        due("book(0, 3)", x.book(0, 3), 0);
        due("look(7)", x.look(7), 1);
        Checks.refused(x, "act(4, 0, 0) again", () -> x.act(4, 0, 0));
        x.set(1, 1, 9999);
        due("act(4, 1, 0) of the last one", x.act(4, 1, 0), true);
        due("book(1, 3)", x.book(1, 3), 9999);
        due("look(1)", x.look(1), 0);
        due("look(4)", x.look(4), 9999);
    }

    private static void dayCounts() {
        SaltFigures x = threeOneDead();
        x.days(3);
        says("6: DAYS go by (1 .. 60). NONE, and nothing is done, if one can't be");
        for (int n : new int[] {MIN, -60, -1, 0, 61, 62, MAX}) {
            Checks.refused(x, "days(" + n + ")", () -> x.days(n), -1);
        }
        Checks.tell(x, 0, "spills 1000;throws 0;", 2);
        due("days(1)", x.days(1), 2);
        due("look(5)", x.look(5), 4);
        due("days(60)", x.days(60), 120);
        due("look(5)", x.look(5), 64);
    }

    private static SaltFigures atDay(int day) {
        SaltFigures x = Checks.withPersons(3);
        Checks.tell(x, 0, "spills 1000 when day>9999;spills 0;throws day/11;", 3);
        while (x.look(5) < day) {
            x.days(Math.min(60, day - x.look(5)));
        }
        due("look(5)", x.look(5), day);
        return x;
    }

    private static void lastDay() {
        says("6: NONE, and nothing is done, if DAY would be above 9999");
        SaltFigures x = atDay(9939);
        due("days(60) to 9999", x.days(60), 0);
        due("look(5)", x.look(5), 9999);
        due("what can be undone", x.look(13), 6);
        for (int n : new int[] {1, 2, 60, MAX}) {
            Checks.refused(x, "days(" + n + ") at 9999", () -> x.days(n), -1);
        }
        SaltFigures y = atDay(9940);
        Checks.refused(y, "days(60) to 10000", () -> y.days(60), -1);
        due("days(59) to 9999", y.days(59), 0);
        due("look(5)", y.look(5), 9999);
        SaltFigures z = atDay(9998);
        Checks.refused(z, "days(2) to 10000", () -> z.days(2), -1);
        due("days(1) to 9999", z.days(1), 0);
        says("day (of THE LAW)");
        due("throws day/11 at 9999", z.of(0, 8), 909);
        says("GOES (DAY may come above 9999 there, as in AS HIGH)");
        due("goes(1, 2) at 9999", z.goes(1, 2), 0);
        due("goes(2, 2) from 9999 on", z.goes(2, 2), 1);
        due("goes(60, 2) from 9999 on", z.goes(60, 2), 59);
        due("high(0, 909) from 9999 on", z.high(0, 909), 2);
        due("high(0, 910) from 9999 on", z.high(0, 910), 3);
        says("12: DAY (of a line of THE BOOK)");
        z.act(0, 0, 0);
        due("book(0, 0)", z.book(0, 0), 9999);
        due("undo of what was done at 9999", z.undo(), true);
        due("undo of the last DAY", z.undo(), true);
        due("look(5)", z.look(5), 9998);
    }

    private static void ofWhom() {
        SaltFigures x = threeOneDead();
        says("11: NONE - 1 if there is none such, or another what");
        for (int what = 0; what <= 10; what++) {
            for (int p : new int[] {MIN, -1, 3, 4, 15, 16, MAX}) {
                due("of(" + p + ", " + what + ")", x.of(p, what), -2);
            }
            due("of(2, " + what + ") told", x.of(2, what) != -2, true);
        }
        for (int what : new int[] {MIN, -1, 11, 12, MAX}) {
            due("of(0, " + what + ")", x.of(0, what), -2);
        }
        says("11: 6 SEAT (NONE at first), 10 his heir (NONE)");
        due("of(1, 6)", x.of(1, 6), -1);
        due("of(1, 10)", x.of(1, 10), -1);
    }

    private static void ofTheDead() {
        says("11: of one not ALIVE likewise");
        SaltFigures x = Checks.withPersons(9, 1);
        Checks.tell(x, 3, "person 0 heir 1;", 1);
        x.act(1, 0, 3);
        x.act(0, 0, 0);
        x.act(4, 0, 0);
        int[] dead = {9, 0, 1, 90, 0, 0, -1, 500, 90, 0, 1};
        for (int what = 0; what <= 10; what++) {
            due("of(0, " + what + ")", x.of(0, what), dead[what]);
        }
        Checks.tell(x, 0, "spills belief*100+spilt;throws thrown+seat;runs 5;", 3);
        due("of(0, 7)", x.of(0, 7), 901);
        due("of(0, 8)", x.of(0, 8), 89);
        due("of(0, 9)", x.of(0, 9), 0);
    }

    private static void bookLines() {
        says("12: NONE if there is none such, or another what");
        SaltFigures x = Checks.withPersons(4);
        for (int i : new int[] {MIN, -1, 0, 1, 149, 150, MAX}) {
            due("book(" + i + ", 0) of no lines", x.book(i, 0), -1);
        }
        x.days(1);
        x.act(0, 0, 0);
        x.act(0, 0, 0);
        int lines = x.look(7);
        for (int i : new int[] {MIN, -1, lines, lines + 1, 149, 150, MAX}) {
            for (int what = 0; what < 4; what++) {
                due("book(" + i + ", " + what + ")", x.book(i, what), -1);
            }
        }
        for (int what : new int[] {MIN, -1, 4, 5, MAX}) {
            due("book(0, " + what + ")", x.book(0, what), -1);
            due("book(" + (lines - 1) + ", " + what + ")", x.book(lines - 1, what), -1);
        }
        int[] last = {1, 0, 0, 40};
        for (int what = 0; what < 4; what++) {
            due("book(" + (lines - 1) + ", " + what + ")", x.book(lines - 1, what), last[what]);
        }
        x.undo();
        for (int what = 0; what < 4; what++) {
            due("book(" + (lines - 1) + ", " + what + ") undone", x.book(lines - 1, what), -1);
        }
    }

    /** 148 lines of DAYS 0 .. 147. */
    private static SaltFigures almostFull() {
        SaltFigures x = Checks.withPersons(1, 2);
        Checks.tell(x, 0, "spills 1000 when belief=1;spills 0;throws 3;", 3);
        x.days(60);
        x.days(60);
        x.days(28);
        due("look(7)", x.look(7), 148);
        return x;
    }

    private static void bookIsFull() {
        says("THE BOOK (150 lines; no more then)");
        SaltFigures x = almostFull();
        x.days(1);
        due("look(7)", x.look(7), 149);
        due("book(149, 0)", x.book(149, 0), -1);
        x.days(1);
        due("look(7)", x.look(7), 150);
        int[] last = {149, 0, 0, 3};
        for (int what = 0; what < 4; what++) {
            due("book(149, " + what + ")", x.book(149, what), last[what]);
        }
        due("days(3) when it is full", x.days(3), 3);
        due("look(7) when it is full", x.look(7), 150);
        due("of(0, 1) goes on", x.of(0, 1), 153 * 3);
        for (int what = 0; what < 4; what++) {
            due("book(149, " + what + ") stays", x.book(149, what), last[what]);
            due("book(150, " + what + ")", x.book(150, what), -1);
        }
        says("UNDO: goes back (STATE, THE BOOK, too)");
        for (int lines : new int[] {150, 150, 150, 149, 148}) {
            x.undo();
            due("look(7) undone", x.look(7), lines);
        }
        x.act(3, 0, 0);
        due("look(7) once more", x.look(7), 149);
        due("book(148, 1) once more", x.book(148, 1), 4);
        due("book(147, 0) stays", x.book(147, 0), 147);
    }

    private static void bookIsFullAmidADeath() {
        says("THE BOOK (150 lines; no more then)");
        SaltFigures x = almostFull();
        Checks.tell(x, 3, "person 0 heir 1;", 1);
        x.days(1);
        x.act(4, 0, 0);
        due("look(7)", x.look(7), 150);
        due("book(149, 1)", x.book(149, 1), 5);
        due("book(149, 3)", x.book(149, 3), 149 * 3);
        due("book(150, 1)", x.book(150, 1), -1);
        due("of(1, 1) inherited", x.of(1, 1), 149 * 3);
    }

    private static void looks() {
        says("41: NONE - 99999 for another what");
        for (SaltFigures x : new SaltFigures[] {new SaltFigures(), threeOneDead()}) {
            for (int what : new int[] {MIN, -2, -1, 14, 15, 19, 36, 37, 99, MAX}) {
                due("look(" + what + ")", x.look(what), -100000);
            }
            for (int what = 0; what < 36; what++) {
                due("look(" + what + ") told", x.look(what) != -100000, what < 14 || what > 19);
            }
        }
        says("41: 20 + s who has SEAT s (NONE)");
        SaltFigures x = new SaltFigures();
        for (int i = 0; i < 16; i++) {
            x.person(1);
            due("look(" + (35 - i) + ") free", x.look(35 - i), -1);
            x.act(1, i, 15 - i);
            due("look(" + (35 - i) + ")", x.look(35 - i), i);
        }
        says("41: 1 those ALIVE (a set)");
        due("look(1) of sixteen", x.look(1), 65535);
        x.act(4, 15, 0);
        due("look(1) without 15", x.look(1), 32767);
        x.act(4, 0, 0);
        due("look(1) without 0", x.look(1), 32766);
    }

    private static void tallest() {
        says("TALLEST: who has most SALT (of several the least; NONE: nobody has any; who is not ALIVE has none)");
        SaltFigures x = Checks.withPersons(1, 1, 1);
        due("look(6) of nothing", x.look(6), -1);
        x.set(1, 2, 1);
        due("look(6) of 1", x.look(6), 2);
        x.set(1, 1, 1);
        due("look(6) of several", x.look(6), 1);
        x.set(1, 0, 1);
        due("look(6) of all alike", x.look(6), 0);
        x.set(1, 2, 2);
        due("look(6) of 1 more", x.look(6), 2);
        x.set(1, 1, 9999);
        x.set(1, 2, 9999);
        due("look(6) of the most", x.look(6), 1);
        x.act(4, 1, 0);
        due("look(6) without the dead", x.look(6), 2);
        x.set(1, 2, 0);
        x.set(1, 0, 0);
        due("look(6) of nothing again", x.look(6), -1);
    }
}
