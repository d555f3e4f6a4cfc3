/** The sentences of A DAY, of THE BOOK's lines and of days in thought (promises 6, 13 to 15) that name a bound. */
public final class DayBoundsTest {
    private static final int MIN = Integer.MIN_VALUE;
    private static final int MAX = Integer.MAX_VALUE;

    public static void main(String[] args) {
        wetOfItsDay();
        linesInTheirOrder();
        scolding();
        dyingByWeather();
        inheriting();
        dyingInARow();
        feasts();
        feastOverfull();
        grainByGrain();
        allGrains();
        noGrains();
        throwing();
        running();
        runningBeside();
        runningFromSeatToSeat();
        thoughtSpills();
        goesBounds();
        highBounds();
        highOfTheDying();
        doorHeights();
        doorOfSeveral();
        Checks.finish();
    }

    private static void says(String sentence) {
        Checks.says(sentence);
    }

    private static void due(String call, long got, long want) {
        Checks.due(call, got, want);
    }

    /** PERSONS who spill nothing by themselves. */
    private static SaltFigures calm(int... beliefs) {
        SaltFigures x = Checks.withPersons(beliefs);
        Checks.tell(x, 0, "spills 0;", 1);
        return x;
    }

    private static void book(SaltFigures x, int from, int[][] lines) {
        for (int i = 0; i < lines.length; i++) {
            for (int what = 0; what < 4; what++) {
                due("book(" + (from + i) + ", " + what + ")", x.book(from + i, what), lines[i][what]);
            }
        }
        due("look(7)", x.look(7), from + lines.length);
    }

    private static void wetOfItsDay() {
        says("WEATHER (DAY 0 .. 999; wet 0 .. 9)");
        SaltFigures x = new SaltFigures();
        Checks.tell(x, 2, "on 999 wet 9;on 998 wet 8;on 1 wet 0;on 0 wet 1;", 4);
        due("look(2) at first", x.look(2), 0);
        x.days(1);
        due("look(2) behind DAY 0", x.look(2), 1);
        x.days(1);
        due("look(2) behind DAY 1", x.look(2), 0);
        for (int i = 0; i < 16; i++) {
            x.days(60);
        }
        x.days(36);
        due("look(5)", x.look(5), 998);
        due("look(2) ahead of DAY 998", x.look(2), 0);
        x.days(1);
        due("look(2) behind DAY 998", x.look(2), 8);
        x.days(1);
        due("look(2) behind DAY 999", x.look(2), 9);
        x.set(2, 0, 5);
        while (x.look(5) < 9960) {
            x.days(60 - x.look(5) % 60);
        }
        x.days(39);
        due("look(2) behind DAY 9998", x.look(2), 5);
    }

    private static void linesInTheirOrder() {
        says("Line by line of WEATHER for it: wet: WET is N");
        SaltFigures x = calm(1);
        Checks.tell(x, 2, "on 0 wet 9;on 1 wet 2;on 0 wet 0;", 3);
        x.days(1);
        due("look(2)", x.look(2), 0);
        x.days(1);
        due("look(2)", x.look(2), 2);
    }

    private static void scolding() {
        says("scold: BELIEF is N (ALIVE or not)");
        SaltFigures x = calm(5, 5);
        x.act(4, 1, 0);
        Checks.tell(x, 2, "on 0 scold 0 0;on 0 scold 1 9;on 1 scold 0 9;on 1 scold 1 0;", 4);
        x.days(1);
        due("of(0, 0)", x.of(0, 0), 0);
        due("of(0, 8), a sceptic", x.of(0, 8), 0);
        due("of(1, 0), not ALIVE", x.of(1, 0), 9);
        due("of(1, 5)", x.of(1, 5), 0);
        x.days(1);
        due("of(0, 0)", x.of(0, 0), 9);
        due("of(1, 0), not ALIVE", x.of(1, 0), 0);
    }

    private static void dyingByWeather() {
        says("die: one ALIVE is not any more: his SEAT is NONE");
        SaltFigures x = calm(5, 5);
        x.act(1, 0, 3);
        x.set(1, 0, 9);
        Checks.tell(x, 2, "on 0 die 0;on 0 die 0;on 1 die 0;on 2 die 1;", 4);
        x.days(1);
        due("of(0, 5)", x.of(0, 5), 0);
        due("of(0, 6)", x.of(0, 6), -1);
        due("look(23)", x.look(23), -1);
        due("look(4)", x.look(4), 9);
        book(x, 0, new int[][] {{0, 5, 0, 9}});
        x.days(1);
        book(x, 0, new int[][] {{0, 5, 0, 9}});
        x.days(1);
        due("look(1), nobody", x.look(1), 0);
        book(x, 1, new int[][] {{2, 5, 1, 0}});
    }

    /** One with that SALT dies, his heir has that much: what the heir has then, what is SWEPT. */
    private static void inherits(int salt, int heirs, int then, int swept) {
        String call = salt + " to " + heirs + ": ";
        for (int byHand = 0; byHand < 2; byHand++) {
            SaltFigures x = calm(5, 5, 5);
            Checks.tell(x, 3, "person 2 heir 0;", 1);
            x.set(1, 2, salt);
            x.set(1, 0, heirs);
            if (byHand == 1) {
                x.act(4, 2, 0);
            } else {
                Checks.tell(x, 2, "on 0 die 2;", 1);
                x.days(1);
            }
            due(call + "of(0, 1)", x.of(0, 1), then);
            due(call + "of(2, 1)", x.of(2, 1), 0);
            due(call + "of(1, 1)", x.of(1, 1), 0);
            due(call + "look(4)", x.look(4), swept);
            book(x, 0, new int[][] {{0, 5, 2, salt}, {0, 3, 0, then - heirs}});
        }
    }

    private static void inheriting() {
        says("his SALT goes to his heir (9999 at most, the rest is SWEPT); 3: behind 5, by how much his SALT is more, 0, too");
        inherits(0, 0, 0, 0);
        inherits(0, 9999, 9999, 0);
        inherits(1, 0, 1, 0);
        inherits(9999, 0, 9999, 0);
        inherits(9999, 1, 9999, 1);
        inherits(1, 9998, 9999, 0);
        inherits(2, 9998, 9999, 1);
        inherits(1, 9999, 9999, 1);
        inherits(9999, 9999, 9999, 9999);
        says("if there is one ALIVE, else all is SWEPT");
        SaltFigures x = calm(5, 5, 5);
        Checks.tell(x, 3, "person 0 heir 1;", 1);
        x.act(4, 1, 0);
        x.set(1, 0, 9999);
        x.act(4, 0, 0);
        due("his heir not ALIVE: of(1, 1)", x.of(1, 1), 0);
        due("his heir not ALIVE: look(4)", x.look(4), 9999);
        x.set(1, 2, 1);
        x.act(4, 2, 0);
        due("no heir: look(4)", x.look(4), 10000);
        book(x, 0, new int[][] {{0, 5, 1, 0}, {0, 5, 0, 9999}, {0, 5, 2, 1}});
    }

    private static void dyingInARow() {
        says("Line by line of WEATHER: die: his SALT goes to his heir, if there is one ALIVE");
        SaltFigures x = calm(1, 1, 1);
        Checks.tell(x, 3, "person 0 heir 1;person 1 heir 2;", 2);
        Checks.tell(x, 2, "on 0 die 0;on 0 die 1;", 2);
        x.set(1, 0, 10);
        x.set(1, 1, 5);
        x.days(1);
        due("of(2, 1)", x.of(2, 1), 15);
        due("look(4)", x.look(4), 0);
        book(x, 0, new int[][] {{0, 5, 0, 10}, {0, 3, 1, 10}, {0, 5, 1, 15}, {0, 3, 2, 15}});
        SaltFigures y = calm(1, 1, 1);
        Checks.tell(y, 3, "person 0 heir 1;person 1 heir 2;", 2);
        Checks.tell(y, 2, "on 0 die 1;on 0 die 0;", 2);
        y.set(1, 0, 10);
        y.set(1, 1, 5);
        y.days(1);
        due("the other way round: of(2, 1)", y.of(2, 1), 5);
        due("the other way round: look(4)", y.look(4), 10);
        book(y, 0, new int[][] {{0, 5, 1, 5}, {0, 3, 2, 5}, {0, 5, 0, 10}});
    }

    private static void feasts() {
        says("feast: each PERSON ALIVE with a SEAT, by PERSON, spills without a DRAW, as in (b)");
        SaltFigures x = calm(1, 0, 3, 4);
        Checks.tell(x, 2, "on 0 feast;on 1 feast;", 2);
        due("nobody with a SEAT, days(1)", x.days(1), 0);
        book(x, 0, new int[0][]);
        x.act(1, 3, 0);
        x.act(1, 1, 15);
        x.act(1, 2, 7);
        x.act(4, 2, 0);
        x.state(77);
        due("days(1)", x.days(1), 2);
        due("look(8)", x.look(8), 77);
        due("of(0, 2), without a SEAT", x.of(0, 2), 0);
        due("of(1, 2), a sceptic", x.of(1, 2), 1);
        due("of(2, 2), not ALIVE", x.of(2, 2), 0);
        due("of(3, 2)", x.of(3, 2), 1);
        book(x, 1, new int[][] {{1, 0, 1, 0}, {1, 0, 3, 40}});
    }

    private static void feastOverfull() {
        says("SALT, too (9999 at most; the rest is SWEPT)");
        SaltFigures x = calm(9);
        Checks.tell(x, 2, "on 0 feast;on 0 feast;on 0 feast;", 3);
        x.act(1, 0, 15);
        x.set(1, 0, 9819);
        due("days(1)", x.days(1), 3);
        due("of(0, 1)", x.of(0, 1), 9999);
        due("of(0, 3)", x.of(0, 3), 270);
        due("look(4)", x.look(4), 90);
        book(x, 0, new int[][] {{0, 0, 0, 90}, {0, 0, 0, 90}, {0, 0, 0, 90}});
    }

    private static SaltFigures herd(String weather, int... salt) {
        SaltFigures x = calm(new int[salt.length]);
        for (int i = 0; i < salt.length; i++) {
            x.set(1, i, salt[i]);
        }
        Checks.tell(x, 2, weather, 1);
        x.days(1);
        return x;
    }

    private static void licked(String weather, int[] salt, int... less) {
        SaltFigures x = herd(weather, salt);
        int line = 0;
        for (int i = 0; i < salt.length; i++) {
            due(weather + " of(" + i + ", 1)", x.of(i, 1), salt[i] - less[i]);
            due(weather + " of(" + i + ", 4)", x.of(i, 4), less[i]);
            if (less[i] > 0) {
                due(weather + " book(" + line + ", 1)", x.book(line, 1), 2);
                due(weather + " book(" + line + ", 2)", x.book(line, 2), i);
                due(weather + " book(" + line + ", 3)", x.book(line, 3), less[i]);
                line++;
            }
        }
        due(weather + " look(7)", x.look(7), line);
        due(weather + " look(3) + look(4)", x.look(3) + x.look(4), 0);
    }

    private static void grainByGrain() {
        says("cattle: N grains, one by one, each from who has most SALT just then (of several the least PERSON)");
        licked("on 0 cattle 1;", new int[] {5, 5, 5}, 1, 0, 0);
        licked("on 0 cattle 2;", new int[] {5, 5, 5}, 1, 1, 0);
        licked("on 0 cattle 3;", new int[] {5, 5, 5}, 1, 1, 1);
        licked("on 0 cattle 4;", new int[] {5, 5, 5}, 2, 1, 1);
        licked("on 0 cattle 1;", new int[] {4, 5, 6}, 0, 0, 1);
        licked("on 0 cattle 2;", new int[] {4, 5, 6}, 0, 1, 1);
        licked("on 0 cattle 3;", new int[] {4, 5, 6}, 0, 1, 2);
        licked("on 0 cattle 4;", new int[] {4, 5, 6}, 1, 1, 2);
        licked("on 0 cattle 999;", new int[] {9999, 9999}, 500, 499);
        licked("on 0 cattle 999;", new int[] {9998, 9999}, 499, 500);
    }

    private static void allGrains() {
        says("cattle: till nobody has any");
        licked("on 0 cattle 5;", new int[] {1, 2, 3}, 1, 2, 2);
        licked("on 0 cattle 6;", new int[] {1, 2, 3}, 1, 2, 3);
        licked("on 0 cattle 7;", new int[] {1, 2, 3}, 1, 2, 3);
        licked("on 0 cattle 999;", new int[] {500, 499}, 500, 499);
        licked("on 0 cattle 999;", new int[] {500, 500}, 500, 499);
        licked("on 0 cattle 999;", new int[] {0, 998}, 0, 998);
        int[] sixteen = new int[16];
        int[] less = new int[16];
        for (int i = 0; i < 16; i++) {
            sixteen[i] = i + 1;
            less[i] = i == 15 ? 15 : i + 1;
        }
        licked("on 0 cattle 135;", sixteen, less);
    }

    private static void noGrains() {
        says("2: how many grains were licked of him by one line of WEATHER, if any");
        licked("on 0 cattle 999;", new int[] {0, 0}, 0, 0);
        licked("on 0 cattle 1;", new int[0]);
        SaltFigures x = calm(1, 1);
        x.set(1, 0, 3);
        x.set(1, 1, 1);
        Checks.tell(x, 2, "on 0 cattle 1;on 0 cattle 1;on 0 cattle 1;on 0 cattle 2;", 4);
        x.days(1);
        book(x, 0, new int[][] {{0, 2, 0, 1}, {0, 2, 0, 1}, {0, 2, 0, 1}, {0, 2, 1, 1}});
        due("of(0, 4)", x.of(0, 4), 3);
    }

    private static void throwing() {
        says("(b) he spills: SPILT one more, then throws is asked (9999 at most; the rest is SWEPT)");
        SaltFigures x = Checks.withPersons(1);
        Checks.tell(x, 0, "spills 1000;throws spilt*999;", 2);
        x.set(1, 0, 9000);
        due("days(1)", x.days(1), 1);
        due("of(0, 1)", x.of(0, 1), 9999);
        due("look(4)", x.look(4), 0);
        due("days(1)", x.days(1), 1);
        due("of(0, 1)", x.of(0, 1), 9999);
        due("of(0, 3)", x.of(0, 3), 2 * 999);
        due("look(4)", x.look(4), 999);
        book(x, 0, new int[][] {{0, 0, 0, 999}, {1, 0, 0, 999}});
        says("PERSON by PERSON ALIVE");
        SaltFigures y = Checks.withPersons(1, 1);
        Checks.tell(y, 0, "spills 1000;", 1);
        y.act(4, 0, 0);
        due("days(1) of two, one ALIVE", y.days(1), 1);
        due("of(0, 2)", y.of(0, 2), 0);
        y.act(4, 1, 0);
        due("days(60) of two, none ALIVE", y.days(60), 0);
    }

    /** One at that SEAT with that SALT, of which that much runs: his SALT then, and RUN. */
    private static void runsAlone(int seat, int salt, int runs, int then, int run) {
        String call = runs + " of " + salt + " at " + seat + ": ";
        SaltFigures x = Checks.withPersons(1);
        Checks.tell(x, 0, "spills 0;runs " + runs + ";", 2);
        x.act(1, 0, seat);
        x.set(1, 0, salt);
        x.days(1);
        due(call + "of(0, 1)", x.of(0, 1), then);
        due(call + "look(3)", x.look(3), run);
        due(call + "look(4)", x.look(4), 0);
        book(x, 0, run == 0 ? new int[0][] : new int[][] {{0, 1, 0, run}});
    }

    private static void running() {
        says("(c) SEAT by SEAT (from 0) that has one with SALT: runs is asked, SALT so much less; 1: runs, if above 0");
        for (int seat : new int[] {0, 1, 14, 15}) {
            runsAlone(seat, 0, 5, 0, 0);
            runsAlone(seat, 10, 0, 10, 0);
            runsAlone(seat, 10, 1, 9, 1);
            runsAlone(seat, 10, 9, 1, 9);
            runsAlone(seat, 10, 10, 0, 10);
            runsAlone(seat, 10, 11, 0, 10);
            runsAlone(seat, 9999, 9999, 0, 9999);
        }
        SaltFigures x = Checks.withPersons(1);
        Checks.tell(x, 0, "spills 0;runs 5;", 2);
        x.set(1, 0, 9);
        x.days(1);
        due("without a SEAT of(0, 1)", x.of(0, 1), 9);
        due("without a SEAT look(3)", x.look(3), 0);
    }

    private static void runsTo(int seat, int other, int runs, int his, int then, int run, int swept) {
        String call = runs + " from " + seat + " to " + his + " at " + other + ": ";
        SaltFigures x = Checks.withPersons(1, 2);
        Checks.tell(x, 0, "spills 0;runs " + runs + " when belief=1;runs 0;", 3);
        x.act(1, 0, seat);
        x.act(1, 1, other);
        x.set(1, 0, 1000);
        x.set(1, 1, his);
        x.days(1);
        due(call + "of(0, 1)", x.of(0, 1), 1000 - runs);
        due(call + "of(1, 1)", x.of(1, 1), then);
        due(call + "look(3)", x.look(3), run);
        due(call + "look(4)", x.look(4), swept);
    }

    private static void runningBeside() {
        says("half of that (downwards) goes to who has the next greater SEAT number just beside (9999 at most, the rest is SWEPT)");
        runsTo(0, 1, 1, 7, 7, 1, 0);
        runsTo(0, 1, 2, 7, 8, 1, 0);
        runsTo(14, 15, 3, 7, 8, 2, 0);
        runsTo(14, 15, 999, 0, 499, 500, 0);
        runsTo(3, 4, 2, 9998, 9999, 1, 0);
        runsTo(3, 4, 4, 9998, 9999, 2, 1);
        runsTo(3, 4, 2, 9999, 9999, 1, 1);
        says("if there is one, else it is RUN");
        runsTo(3, 5, 10, 7, 7, 10, 0);
        runsTo(4, 3, 10, 7, 7, 10, 0);
        runsTo(15, 0, 10, 7, 7, 10, 0);
        runsTo(15, 14, 10, 7, 7, 10, 0);
        runsTo(0, 15, 10, 7, 7, 10, 0);
    }

    private static void runningFromSeatToSeat() {
        says("that has one with SALT (what came from the SEAT ahead, too)");
        SaltFigures x = Checks.withPersons(0, 0, 0, 0);
        Checks.tell(x, 0, "spills 0;runs salt;", 2);
        x.act(1, 3, 12);
        x.act(1, 2, 13);
        x.act(1, 1, 14);
        x.act(1, 0, 15);
        x.set(1, 3, 4);
        x.days(1);
        // 4 run: 2 on; 2 run: 1 on; 1 runs: 0 on; there is nothing at SEAT 15
        book(x, 0, new int[][] {{0, 1, 3, 4}, {0, 1, 2, 2}, {0, 1, 1, 1}});
        due("look(3)", x.look(3), 4);
    }

    private static void thoughtSpills() {
        says("no DRAWS: one spills, if spills is 500 at least");
        for (int spills : new int[] {0, 1, 499, 500, 501, 1000}) {
            SaltFigures x = Checks.withPersons(1);
            Checks.tell(x, 0, "spills " + spills + ";", 1);
            due("goes(1, 2) with spills " + spills, x.goes(1, 2), spills < 500 ? 0 : 1);
            due("high(0, 10) with spills " + spills, x.high(0, 10), spills < 500 ? -1 : 1);
            due("look(8)", x.look(8), 0);
        }
        says("feast: spills without a DRAW (spills is not asked)");
        SaltFigures x = calm(4);
        x.act(1, 0, 0);
        Checks.tell(x, 2, "on 0 feast;", 1);
        due("goes(1, 2)", x.goes(1, 2), 1);
        due("high(0, 40)", x.high(0, 40), 1);
    }

    private static void goesBounds() {
        says("GOES for n (1 .. 60) DAYS; 13: NONE if one can't be, or another what; nothing of it stays");
        SaltFigures x = Checks.withPersons(2, 3);
        Checks.tell(x, 2, "on 0 die 1;on 0 cattle 3;on 0 wet 5;on 0 scold 0 9;on 59 cattle 1;on 60 cattle 1;", 6);
        x.set(1, 0, 2000);
        x.act(1, 0, 15);
        for (int what = 0; what < 4; what++) {
            for (int n : new int[] {MIN, -1, 0, 61, MAX}) {
                int w = what;
                Checks.refused(x, "goes(" + n + ", " + what + ")", () -> x.goes(n, w), -1);
            }
            String was = Sight.of(x);
            due("goes(1, " + what + ") is told", x.goes(1, what) >= 0 ? 1 : 0, 1);
            due("goes(60, " + what + ") is told", x.goes(60, what) >= 0 ? 1 : 0, 1);
            Checks.due("nothing of it stays", Sight.of(x).equals(was), true);
        }
        for (int what : new int[] {MIN, -1, 4, 5, MAX}) {
            due("goes(1, " + what + ")", x.goes(1, what), -1);
            due("goes(60, " + what + ")", x.goes(60, what), -1);
        }
        says("SALT of all, RUN, SPILT of all, LICKED of all then");
        SaltFigures y = Checks.withPersons(2, 3, 5);
        Checks.tell(y, 0, "spills 1000 when belief=2;spills 0;runs 6;", 3);
        Checks.tell(y, 2, "on 1 cattle 7;on 2 cattle 4;", 2);
        y.act(1, 1, 15);
        y.set(1, 1, 300);
        y.set(1, 2, 100);
        y.days(1);
        int[][] all = {{414, 6, 1, 0}, {421, 12, 2, 7}, {431, 18, 3, 11}};
        for (int what = 0; what < 4; what++) {
            due("goes(1, " + what + ") behind a DAY", y.goes(1, what), all[1][what]);
            due("goes(2, " + what + ") behind a DAY", y.goes(2, what), all[2][what]);
        }
        due("SALT of all now", y.of(0, 1) + y.of(1, 1) + y.of(2, 1), all[0][0]);
        due("look(3) now", y.look(3), all[0][1]);
        says("GOES for n (1 .. 60) DAYS");
        due("goes(1, 3)", x.goes(1, 3), 3);
        due("goes(59, 3)", x.goes(59, 3), 3);
        due("goes(60, 3)", x.goes(60, 3), 4);
        due("goes(1, 2)", x.goes(1, 2), 1);
        due("goes(60, 2)", x.goes(60, 2), 60);
    }

    private static void highBounds() {
        says("AS HIGH of a PERSON ALIVE, v (1 .. 9999): behind how many DAYS his SALT is v at least (0: now; NONE: not within 60)");
        SaltFigures x = Checks.withPersons(5, 0);
        Checks.tell(x, 0, "spills 1000;throws 1 when belief=5;throws 0;", 3);
        x.set(1, 0, 100);
        due("high(0, 1)", x.high(0, 1), 0);
        due("high(0, 100)", x.high(0, 100), 0);
        due("high(0, 101)", x.high(0, 101), 1);
        due("high(0, 159)", x.high(0, 159), 59);
        due("high(0, 160)", x.high(0, 160), 60);
        due("high(0, 161)", x.high(0, 161), -1);
        due("high(1, 1)", x.high(1, 1), -1);
        x.set(1, 0, 9998);
        due("high(0, 9998)", x.high(0, 9998), 0);
        due("high(0, 9999)", x.high(0, 9999), 1);
        says("14: NONE, too, if one can't be (not ALIVE)");
        x.act(4, 1, 0);
        x.set(1, 0, 9999);
        due("high(0, 9999)", x.high(0, 9999), 0);
        for (int v : new int[] {MIN, -1, 0, 10000, MAX}) {
            Checks.refused(x, "high(0, " + v + ")", () -> x.high(0, v), -1);
        }
        for (int p : new int[] {MIN, -1, 1, 2, 16, MAX}) {
            Checks.refused(x, "high(" + p + ", 1)", () -> x.high(p, 1), -1);
        }
    }

    private static void highOfTheDying() {
        says("NONE: he died meanwhile, too");
        SaltFigures x = Checks.withPersons(5, 5);
        Checks.tell(x, 0, "spills 1000;throws 1;", 2);
        Checks.tell(x, 2, "on 3 die 0;on 0 die 1;", 2);
        due("high(0, 3), ahead of DAY 3", x.high(0, 3), 3);
        due("high(0, 4)", x.high(0, 4), -1);
        due("high(1, 1)", x.high(1, 1), -1);
        due("look(1)", x.look(1), 3);
        Checks.tell(x, 3, "person 0 heir 1;", 1);
        Checks.tell(x, 2, "on 59 die 0;on 60 die 1;", 2);
        due("high(1, 118), 59 and 1 and 59 on DAY 59", x.high(1, 118), 60);
        due("high(1, 119)", x.high(1, 119), 60);
        due("high(1, 120)", x.high(1, 120), -1);
    }

    private static void doorHeights() {
        says("how high it stands at a SEAT is the SALT of who has it by 100 (nobody: 0)");
        SaltFigures x = calm(1);
        x.set(1, 0, 9999);
        due("without a SEAT door(0)", x.door(0), 0);
        int[][] heights = {{0, 0}, {99, 0}, {100, 1}, {199, 1}, {200, 2}, {9899, 98}, {9900, 99}, {9999, 99}};
        for (int seat : new int[] {0, 15}) {
            x.act(1, 0, seat);
            for (int[] h : heights) {
                x.set(1, 0, h[0]);
                due("door(0) of " + h[0], x.door(0), h[1]);
                says("0: NONE, NONE");
                due("door(1) of " + h[0] + " at " + seat, x.door(1), h[1] == 0 ? -1 : seat);
                due("door(2) of " + h[0] + " at " + seat, x.door(2), h[1] == 0 ? -1 : seat);
            }
            x.act(2, 0, 0);
        }
        says("15: NONE, too, for another what");
        for (int what : new int[] {MIN, -1, 3, 4, MAX}) {
            due("door(" + what + ")", x.door(what), -1);
        }
    }

    private static void door(String call, int[] heights, int product, int first, int last) {
        SaltFigures x = new SaltFigures();
        for (int seat = 0; seat < heights.length; seat++) {
            x.person(1);
            x.act(1, seat, seat);
            x.set(1, seat, 100 * heights[seat]);
        }
        due(call + " door(0)", x.door(0), product);
        due(call + " door(1)", x.door(1), first);
        due(call + " door(2)", x.door(2), last);
    }

    private static void doorOfSeveral() {
        says("of all rows of SEATS side by side the greatest product of how many and the least height in it");
        door("sixteen of 1", new int[] {1, 1, 1, 1, 1, 1, 1, 1, 1, 1, 1, 1, 1, 1, 1, 1}, 16, 0, 15);
        door("sixteen of 99", new int[] {99, 99, 99, 99, 99, 99, 99, 99, 99, 99, 99, 99, 99, 99, 99, 99}, 1584, 0, 15);
        door("the last two", new int[] {1, 0, 0, 0, 0, 0, 0, 0, 0, 0, 0, 0, 0, 0, 1, 1}, 2, 14, 15);
        door("a gap", new int[] {3, 0, 3, 3}, 6, 2, 3);
        says("of several rows the least first one, then the least last one");
        door("first of two", new int[] {0, 4, 0, 2, 2, 0, 4}, 4, 1, 1);
        door("longer ahead", new int[] {0, 2, 2, 0, 4}, 4, 1, 2);
        door("the least last", new int[] {4, 2, 1, 1}, 4, 0, 0);
        door("the least last of two more", new int[] {2, 2, 1, 1}, 4, 0, 1);
        door("one more is more", new int[] {4, 3, 1}, 6, 0, 1);
    }
}
