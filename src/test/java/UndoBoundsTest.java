/** The sentences of UNDO and THE IMAGE (promises 39 and 40) that name a bound: what is kept, what forgets, what does not. */
public final class UndoBoundsTest {
    private static final int MIN = Integer.MIN_VALUE;
    private static final int MAX = Integer.MAX_VALUE;
    private static final String[] LINES = {"throws 9;", "seat 1 person 2;", "on 0 wet 1;", "person 1 heir 0;"};
    private static final int FORGETS = 9;

    public static void main(String[] args) {
        nothing();
        sixKept();
        sixOfDays();
        aRingOfSix();
        eachByHand();
        stateAndBookToo();
        whatForgets();
        forgetsThoughAllStays();
        lawAndHeirs();
        toldForThought();
        tapeAndFault();
        refusedByHand();
        refusedTold();
        refusedWhenFull();
        thinking();
        noImage();
        imageOfNothing();
        imageMoreThanOnce();
        imageHoldsAll();
        imageOfTexts();
        imageOfThoughts();
        imageWithoutTape();
        imageWithoutUndo();
        imageOfTheFull();
        Checks.finish();
    }

    private static void says(String sentence) {
        Checks.says(sentence);
    }

    private static void due(String call, long got, long want) {
        Checks.due(call, got, want);
    }

    private static void due(String call, boolean got, boolean want) {
        Checks.due(call, got, want);
    }

    private static void nothing() {
        says("39: UNDO: true; false if there is nothing");
        SaltFigures x = new SaltFigures();
        Checks.refused(x, "undo() at first", () -> x.undo());
        x.person(1);
        Checks.refused(x, "undo() of what is told", () -> x.undo());
        x.act(0, 0, 0);
        due("look(13)", x.look(13), 1);
        due("undo()", x.undo(), true);
        due("look(13) then", x.look(13), 0);
        Checks.refused(x, "undo() once more", () -> x.undo());
        due("of(0, 2)", x.of(0, 2), 0);
    }

    private static void sixKept() {
        says("6 are kept");
        for (int done = 1; done <= 14; done++) {
            SaltFigures x = Checks.withPersons(1);
            for (int i = 0; i < done; i++) {
                due("act(0, 0, 0)", x.act(0, 0, 0), true);
                due("look(13) behind " + (i + 1), x.look(13), Math.min(6, i + 1));
            }
            int can = Math.min(6, done);
            for (int i = 1; i <= can; i++) {
                due("undo() the " + i + "-th of " + done, x.undo(), true);
                due("of(0, 2)", x.of(0, 2), done - i);
                due("look(7)", x.look(7), done - i);
                due("look(13)", x.look(13), can - i);
            }
            Checks.refused(x, "undo() of " + done + " once more", () -> x.undo());
            due("of(0, 2) then", x.of(0, 2), done - can);
        }
    }

    private static void sixOfDays() {
        says("the latest DAY not undone yet goes back: 6 are kept");
        for (int n : new int[] {1, 2, 5, 6, 7, 8, 59, 60}) {
            SaltFigures x = Checks.withPersons(1);
            x.days(n);
            due("look(13) behind days(" + n + ")", x.look(13), Math.min(6, n));
            int day = n;
            while (x.undo()) {
                day--;
                due("look(5)", x.look(5), day);
            }
            due("look(5) at last", x.look(5), Math.max(0, n - 6));
        }
    }

    private static void aRingOfSix() {
        says("the latest .. not undone yet goes back");
        SaltFigures x = Checks.withPersons(1);
        x.days(7);
        x.undo();
        x.undo();
        due("look(13)", x.look(13), 4);
        x.act(1, 0, 3);
        x.act(0, 0, 0);
        x.days(1);
        due("look(13)", x.look(13), 6);
        x.undo();
        due("look(5), the DAY", x.look(5), 5);
        x.undo();
        due("of(0, 6), still there", x.of(0, 6), 3);
        x.undo();
        due("of(0, 6), the SITTING", x.of(0, 6), -1);
        for (int day = 4; day >= 2; day--) {
            due("undo()", x.undo(), true);
            due("look(5)", x.look(5), day);
        }
        due("undo() of what is not kept", x.undo(), false);
        due("look(5) at last", x.look(5), 2);
    }

    private static SaltFigures port() {
        SaltFigures x = Checks.withPersons(5, 6, 7, 8);
        Checks.tell(x, 0, "spills 600;", 1);
        Checks.tell(x, 1, "seat 0 person 0;seat 1 person 1;", 2);
        Checks.tell(x, 2, "on 0 wet 5;on 0 scold 1 9;on 0 cattle 9;on 0 die 3;on 0 feast;on 9 die 1;", 6);
        Checks.tell(x, 3, "person 2 heir 0;person 3 heir 2;", 2);
        x.set(1, 0, 1000);
        x.set(1, 2, 400);
        x.set(1, 3, 9900);
        x.state(12345);
        return x;
    }

    private static void eachByHand() {
        says("the latest DAY, SPILLING, SITTING, RISING, SWEEPING, DYING by hand not undone yet goes back");
        SaltFigures x = port();
        String was = Sight.of(x);
        int[][] acts = {{0, 1, 0}, {1, 2, 15}, {2, 0, 0}, {3, 2, 0}, {4, 2, 0}};
        for (int[] a : acts) {
            String call = "act(" + a[0] + ", " + a[1] + ", " + a[2] + ")";
            due(call, x.act(a[0], a[1], a[2]), true);
            due(call + " changes", Sight.told(x).equals(was), false);
            due("undo() of " + call, x.undo(), true);
            due("all is as it was ahead of " + call, Sight.of(x).equals(was), true);
        }
        x.days(1);
        due("days(1) changes the DAY", x.look(5), 1);
        due("undo() of a DAY", x.undo(), true);
        due("all is as it was ahead of the DAY", Sight.of(x).equals(was), true);
        for (int[] a : acts) {
            x.act(a[0], a[1], a[2]);
        }
        x.days(1);
        for (int i = 0; i < 6; i++) {
            due("undo() of each, the latest first", x.undo(), true);
        }
        due("all is as it was ahead of all", Sight.of(x).equals(was), true);
    }

    private static void stateAndBookToo() {
        says("goes back (STATE, THE BOOK, too)");
        SaltFigures x = port();
        int[] states = new int[6];
        int[] lines = new int[6];
        for (int i = 0; i < 6; i++) {
            states[i] = x.look(8);
            lines[i] = x.look(7);
            x.days(1);
            due("a DRAW was made", x.look(8) != states[i], true);
        }
        for (int i = 5; i >= 0; i--) {
            x.undo();
            due("look(8)", x.look(8), states[i]);
            due("look(7)", x.look(7), lines[i]);
            due("book(" + lines[i] + ", 0)", x.book(lines[i], 0), -1);
        }
        String first = Sight.of(x);
        x.days(3);
        String then = Sight.told(x);
        x.undo();
        x.undo();
        x.undo();
        due("back", Sight.of(x).equals(first), true);
        x.days(3);
        due("the same days once more", Sight.told(x).equals(then), true);
    }

    private static SaltFigures withThree() {
        SaltFigures x = port();
        x.days(2);
        x.act(0, 0, 0);
        due("look(13)", x.look(13), 3);
        return x;
    }

    private static void forgetting(SaltFigures x, int which) {
        switch (which) {
            case 0 -> x.state(5);
            case 1 -> x.person(0);
            case 2 -> x.set(0, 0, 0);
            case 3 -> x.set(1, 0, 9999);
            case 4 -> x.set(2, MIN, 9);
            case 5 -> Checks.tell(x, 1, LINES[1], 1);
            case 6 -> Checks.tell(x, 2, LINES[2], 1);
            case 7 -> due("image(false)", x.image(false), true);
            default -> Checks.tell(x, 2, "", 0);
        }
    }

    private static void whatForgets() {
        says("whatever else is told forgets them");
        for (int i = 0; i < FORGETS; i++) {
            SaltFigures x = withThree();
            x.image(true);
            due("look(13) ahead of it", x.look(13), 3);
            forgetting(x, i);
            due("look(13) behind the " + i + "-th", x.look(13), 0);
            Checks.refused(x, "undo() behind the " + i + "-th", () -> x.undo());
            x.days(1);
            due("look(13) of what is done then", x.look(13), 1);
            due("undo() of what is done then", x.undo(), true);
            due("undo() no more", x.undo(), false);
        }
    }

    private static void forgetsThoughAllStays() {
        says("whatever else is told (though it was so already)");
        for (int i = 0; i < 6; i++) {
            SaltFigures x = withThree();
            String was = Sight.told(x);
            boolean told = switch (i) {
                case 0 -> x.state(x.look(8)) == x.look(8);
                case 1 -> x.set(0, 0, x.of(0, 0));
                case 2 -> x.set(1, 0, x.of(0, 1));
                case 3 -> x.set(2, 0, x.look(2));
                case 4 -> {
                    Checks.tell(x, 1, "seat 0 person 0;seat 1 person 1;", 2);
                    yield true;
                }
                default -> {
                    Checks.tell(x, 2, "on 0 wet 5;on 0 scold 1 9;on 0 cattle 9;on 0 die 3;on 0 feast;on 9 die 1;", 6);
                    yield true;
                }
            };
            due("told, the " + i + "-th", told, true);
            due("all stays behind the " + i + "-th", Sight.told(x).equals(was), true);
            due("look(13) behind the " + i + "-th", x.look(13), 0);
        }
    }

    private static void lawAndHeirs() {
        says("but THE LAW, HEIRS");
        for (int k : new int[] {0, 3}) {
            for (String text : new String[] {LINES[k], LINES[k].repeat(16), ""}) {
                SaltFigures x = withThree();
                int lines = text.length() / LINES[k].length();
                Checks.tell(x, k, text, lines);
                due("look(13) behind text " + k, x.look(13), 3);
                for (int i = 0; i < 3; i++) {
                    due("undo()", x.undo(), true);
                    due("look(" + (9 + k) + "), it stays", x.look(9 + k), lines);
                }
                due("look(5)", x.look(5), 0);
                due("undo() once more", x.undo(), false);
                if (k == 0) {
                    due("of(0, 8)", x.of(0, 8), lines > 0 ? 9 : 50);
                } else {
                    due("of(1, 10)", x.of(1, 10), lines > 0 ? 0 : -1);
                    due("of(2, 10)", x.of(2, 10), -1);
                }
            }
        }
    }

    private static void tellForThought(SaltFigures x) {
        due("date", x.date(2000, 2, 29), true);
        due("point", x.point(-99, 99), 1);
        due("point", x.point(99, 99), 2);
        due("weight", x.weight(60), 1);
        due("row 0", x.row(0, 9), 1);
        due("row 1", x.row(1, 9), 1);
        due("drip", x.drip(30), 1);
        due("stage", x.stage(20), 1);
        due("post", x.post(99, 60), 1);
        due("heap", x.heap(99), 1);
    }

    private static void emptyThoughts(SaltFigures x) {
        due("date", x.date(1600, 1, 1), true);
        due("point", x.point(-1000, 0), 0);
        due("weight", x.weight(-1), 0);
        due("row 0", x.row(0, -1), 0);
        due("row 1", x.row(1, -1), 0);
        due("drip", x.drip(-1), 0);
        due("stage", x.stage(-1), 0);
        due("post", x.post(-1, 0), 0);
        due("heap", x.heap(-1), 0);
    }

    private static void thoughts(SaltFigures x, boolean told) {
        due("week(2000, 3, 1, 2)", x.week(2000, 3, 1, 2), told ? 1 : 146157);
        due("hull(0)", x.hull(0), told ? 2 : 0);
        due("weighs(NONE)", x.weighs(-1), told ? 1 : 0);
        due("told(0)", x.told(0), told ? 2 : 0);
        due("shadow(1)", x.shadow(1), 1);
        due("drips(NONE)", x.drips(-1), told ? 30 : -1);
        due("voyage(20, 1)", x.voyage(20, 1), told ? 1 : -1);
        due("light(60, 0, 2)", x.light(60, 0, 2), told ? 1 : 0);
        due("heaped(0)", x.heaped(0), told ? 97 : 0);
    }

    private static void toldForThought() {
        says("and what is told for thought (WEEK, LEFT, WEIGHTS, SHADOW, DRIPS, VOYAGE, LIGHT, HEAP)");
        SaltFigures x = withThree();
        thoughts(x, false);
        tellForThought(x);
        due("look(13) when it is told", x.look(13), 3);
        thoughts(x, true);
        x.undo();
        thoughts(x, true);
        due("stage(20) again", x.stage(20), 1);
        due("look(13)", x.look(13), 2);
        emptyThoughts(x);
        due("look(13) when none is told", x.look(13), 2);
        x.undo();
        thoughts(x, false);
        due("look(5)", x.look(5), 1);
    }

    private static void tapeAndFault() {
        says("(feed(), end(), a text with a FAULT, the taking of THE IMAGE do not)");
        SaltFigures x = withThree();
        String was = Sight.told(x);
        due("feed", x.feed(1, 2, 3, 4, 5), 20);
        due("look(13) behind feed()", x.look(13), 3);
        due("end", x.end(7), true);
        due("look(13) behind end()", x.look(13), 3);
        due("end", x.end(0), true);
        for (int k = 0; k < 4; k++) {
            Checks.refuse(x, k, LINES[k] + "?", 1, LINES[k].length());
            due("look(13) behind a FAULT of text " + k, x.look(13), 3);
        }
        Checks.refuse(x, 4, "?", 0, -1);
        due("look(13) behind text(4)", x.look(13), 3);
        for (int i = 0; i < 3; i++) {
            due("image(true)", x.image(true), true);
            due("look(13) behind image(true)", x.look(13), 3);
        }
        due("all stays", Sight.told(x).equals(was), true);
        due("undo()", x.undo(), true);
        due("look(13)", x.look(13), 2);
    }

    private static void refusedByHand() {
        says("(what is refused does not)");
        SaltFigures x = withThree();
        for (int what : new int[] {MIN, -1, 5, MAX}) {
            Checks.refused(x, "act(" + what + ", 0, 0)", () -> x.act(what, 0, 0));
        }
        for (int what = 0; what <= 4; what++) {
            for (int who : new int[] {MIN, -1, 3, 4, MAX}) {
                int w = what;
                Checks.refused(x, "act(" + what + ", " + who + ", 5)", () -> x.act(w, who, 5));
            }
        }
        x.state(1);
        x.set(1, 2, 0);
        x.days(1);
        x.act(2, 1, 0);
        Checks.tell(x, 0, "throws 0;", 1);
        Checks.refused(x, "act(1, 0, 5), who sits", () -> x.act(1, 0, 5));
        Checks.refused(x, "act(1, 1, 0), not free", () -> x.act(1, 1, 0));
        Checks.refused(x, "act(1, 1, 16)", () -> x.act(1, 1, 16));
        Checks.refused(x, "act(2, 1, 0), without a SEAT", () -> x.act(2, 1, 0));
        due("look(13)", x.look(13), 2);
        x.act(3, 0, 0);
        Checks.refused(x, "act(3, 0, 0), without SALT", () -> x.act(3, 0, 0));
        due("look(13)", x.look(13), 3);
        for (int n : new int[] {MIN, -1, 0, 61, MAX}) {
            Checks.refused(x, "days(" + n + ")", () -> x.days(n), -1);
        }
    }

    private static void refusedTold() {
        says("(what is refused does not)");
        SaltFigures x = withThree();
        Checks.refused(x, "person(-1)", () -> x.person(-1), -1);
        Checks.refused(x, "person(10)", () -> x.person(10), -1);
        int[][] sets = {{0, 0, -1}, {0, 0, 10}, {1, 0, -1}, {1, 0, 10000}, {2, 0, -1}, {2, 0, 10}, {0, 3, 1}, {1, 3, 1}, {0, 4, 1},
            {1, -1, 1}, {3, 0, 1}, {-1, 0, 1}};
        for (int[] s : sets) {
            Checks.refused(x, "set(" + s[0] + ", " + s[1] + ", " + s[2] + ")", () -> x.set(s[0], s[1], s[2]));
        }
        Checks.refused(x, "image(false)", () -> x.image(false));
        Checks.refused(x, "end(1)", () -> x.end(1));
        Checks.refused(x, "end(-1)", () -> x.end(-1));
        Checks.refused(x, "date(2001, 2, 29)", () -> x.date(2001, 2, 29));
        Checks.refused(x, "point(100, 0)", () -> x.point(100, 0), -1);
        Checks.refused(x, "weight(61)", () -> x.weight(61), -1);
        Checks.refused(x, "row(0, 10)", () -> x.row(0, 10), -1);
        Checks.refused(x, "row(2, 0)", () -> x.row(2, 0), -1);
        Checks.refused(x, "drip(31)", () -> x.drip(31), -1);
        Checks.refused(x, "stage(21)", () -> x.stage(21), -1);
        Checks.refused(x, "post(100, 1)", () -> x.post(100, 1), -1);
        Checks.refused(x, "heap(100)", () -> x.heap(100), -1);
    }

    private static void refusedWhenFull() {
        says("(what is refused does not)");
        SaltFigures x = port();
        while (x.look(0) < 16) {
            x.person(1);
        }
        for (int i = 0; i < 20; i++) {
            x.feed(0, 0, 0, 0, 0);
        }
        x.days(60);
        due("look(13)", x.look(13), 6);
        Checks.refused(x, "person(1) of sixteen", () -> x.person(1), -1);
        Checks.refused(x, "feed of 400", () -> x.feed(0, 0, 0, 0, 0), -1);
        while (x.days(60) != -1) {
            due("look(13)", x.look(13), 6);
        }
        Checks.refused(x, "days(60) at " + x.look(5), () -> x.days(60), -1);
    }

    private static void thinking() {
        says("IN THOUGHT (nothing of it stays): all that only tells leaves what can be undone");
        SaltFigures x = withThree();
        String was = Sight.of(x);
        for (int what = -1; what < 4; what++) {
            x.goes(60, what);
            x.door(what);
            x.hull(what);
            x.shadow(what);
            x.told(what);
            x.fault(what);
            x.book(0, what);
            x.week(2000, 1, 1, what);
            x.heaped(what);
            x.game(300, what);
            x.turned(89, what);
            x.switches(3, what);
            x.voyage(200, what);
            x.light(60, 0, what);
        }
        x.high(0, 9999);
        x.side(0, 1, 2);
        x.weighs(-1);
        x.coins(100, 0);
        x.slabs(40);
        x.drips(-1);
        x.told(210);
        due("all stays", Sight.of(x).equals(was), true);
    }

    private static void noImage() {
        says("40: gone back to (false): false if there is none");
        for (SaltFigures x : new SaltFigures[] {new SaltFigures(), withThree()}) {
            for (int i = 0; i < 2; i++) {
                Checks.refused(x, "image(false) of none", () -> x.image(false));
            }
            due("image(true)", x.image(true), true);
            due("image(false)", x.image(false), true);
        }
    }

    private static void imageOfNothing() {
        says("THE IMAGE: all that is and was told, as it was when it was taken");
        SaltFigures x = new SaltFigures();
        String was = Sight.of(x);
        due("image(true) of nothing", x.image(true), true);
        for (int i = 0; i < 16; i++) {
            x.person(9);
            x.act(1, i, i);
            x.act(0, i, 0);
        }
        tellForThought(x);
        for (int k = 0; k < 4; k++) {
            Checks.tell(x, k, LINES[k], 1);
        }
        x.days(60);
        due("image(false)", x.image(false), true);
        due("nobody again", Sight.of(x).equals(was), true);
        due("person(3), the first again", x.person(3), 0);
        due("of(0, 2)", x.of(0, 2), 0);
        due("of(0, 6)", x.of(0, 6), -1);
    }

    private static void imageMoreThanOnce() {
        says("gone back to it may be more than once");
        SaltFigures x = withThree();
        tellForThought(x);
        String was = Sight.told(x);
        x.image(true);
        for (int i = 0; i < 4; i++) {
            x.undo();
            x.act(4, 0, 0);
            x.days(10 + i);
            x.state(i);
            x.person(i);
            due("all is changed", Sight.told(x).equals(was), false);
            due("image(false)", x.image(false), true);
            due("all is as it was", Sight.told(x).equals(was), true);
            due("look(13)", x.look(13), 0);
        }
        due("image(false), gone back to at once", x.image(false), true);
        due("all is as it was", Sight.told(x).equals(was), true);
        x.days(1);
        String then = Sight.told(x);
        x.image(true);
        x.days(1);
        x.image(false);
        due("the later IMAGE", Sight.told(x).equals(then), true);
        due("not the first one", Sight.told(x).equals(was), false);
    }

    private static void imageHoldsAll() {
        says("THE IMAGE: all that is and was told (each by itself)");
        for (int i = 0; i < FORGETS + 4; i++) {
            SaltFigures x = withThree();
            Checks.tell(x, 0, "throws 77;spills 1000;runs 3;", 3);
            String was = Sight.told(x);
            x.image(true);
            switch (i) {
                case 7, 9 -> x.undo();
                case 8 -> Checks.tell(x, 0, "", 0);
                case 10 -> Checks.tell(x, 3, "", 0);
                case 11 -> tellForThought(x);
                case 12 -> x.act(2, 0, 0);
                default -> forgetting(x, i);
            }
            due("the " + i + "-th changes", Sight.told(x).equals(was), false);
            x.image(false);
            due("all is as it was ahead of the " + i + "-th", Sight.told(x).equals(was), true);
        }
        SaltFigures x = withThree();
        tellForThought(x);
        x.image(true);
        emptyThoughts(x);
        thoughts(x, false);
        x.image(false);
        thoughts(x, true);
        due("post, the second", x.post(1, 1), 2);
        due("row(1, 1), the second", x.row(1, 1), 2);
    }

    private static void imageOfTexts() {
        says("THE IMAGE: all that is and was told (THE LAW, TABLE, WEATHER, HEIRS, line by line)");
        SaltFigures x = Checks.withPersons(1, 2, 3);
        Checks.tell(x, 0, "spills 0;throws 5+heirs when belief<3;throws 9;", 3);
        Checks.tell(x, 2, "on 0 wet 7;on 1 feast;on 2 die 2;", 3);
        Checks.tell(x, 3, "person 0 heir 1;person 2 heir 1;", 2);
        x.act(1, 0, 3);
        x.image(true);
        String was = Sight.told(x);
        Checks.tell(x, 0, "runs 1;spills 1000 when 1=1;throws 3 when wet=0 or 1=2;", 3);
        Checks.tell(x, 1, "seat 3 person 1;seat 4 person 2;", 2);
        Checks.tell(x, 2, "on 5 cattle 1;on 5 cattle 1;on 5 cattle 1;on 5 cattle 1;", 4);
        Checks.tell(x, 3, "person 1 heir 2;person 0 heir 2;person 2 heir 0;", 3);
        x.days(1);
        x.image(false);
        due("all is as it was", Sight.told(x).equals(was), true);
        due("of(0, 8)", x.of(0, 8), 5);
        due("of(1, 8), heirs", x.of(1, 8), 7);
        due("of(2, 8)", x.of(2, 8), 9);
        due("of(0, 10)", x.of(0, 10), 1);
        due("of(1, 10)", x.of(1, 10), -1);
        due("days(3)", x.days(3), 1);
        due("look(2)", x.look(2), 7);
        due("of(0, 3), at the feast", x.of(0, 3), 5);
        due("look(1), one died", x.look(1), 3);
        int[] lines = {3, 0, 3, 2};
        for (int k = 0; k < 4; k++) {
            due("look(" + (9 + k) + ")", x.look(9 + k), lines[k]);
        }
    }

    private static void imageOfThoughts() {
        says("THE IMAGE: all that was told (for thought, number by number)");
        for (int times = 0; times < 3; times++) {
            SaltFigures x = new SaltFigures();
            for (int taken = 0; taken <= times; taken++) {
                emptyThoughts(x);
                x.date(1999 + taken, 5, 5);
                for (int i = 0; i < 3; i++) {
                    x.point(i * i, i * (i + taken));
                    x.weight(5 + i * i + taken);
                    x.row(0, 3 + i + taken);
                    x.row(1, 3 + i + taken);
                    x.drip(7 + 2 * i + taken);
                    x.stage(3 + i * i + taken);
                    x.post(20 + i + taken, 9 + 2 * i);
                    x.heap(30 + 9 * i + taken);
                }
                x.image(true);
            }
            String was = Sight.of(x);
            emptyThoughts(x);
            x.image(false);
            due("all is as it was, emptied meanwhile", Sight.of(x).equals(was), true);
            for (int i = 0; i < 8; i++) {
                emptyThoughts(x);
                for (int k = 0; k <= i; k++) {
                    x.point(50 + k, k * k);
                    x.weight(60 - k);
                    x.row(0, 9 - k);
                    x.row(1, 9 - k);
                    x.drip(30 - k);
                    x.stage(20 - k);
                    x.post(90 + k, 60);
                    x.heap(99 - k);
                }
                due("other numbers", Sight.of(x).equals(was), false);
                x.image(false);
                due("all is as it was, with " + (i + 1) + " told meanwhile", Sight.of(x).equals(was), true);
            }
        }
    }

    private static void imageWithoutTape() {
        says("THE IMAGE: but the TAPE, fault()");
        SaltFigures x = withThree();
        Checks.put(x, "throws 5;");
        x.image(true);
        due("the TAPE, when it is taken", Sight.tape(x), 9);
        due("text(0)", x.text(0), 1);
        Checks.refuse(x, 0, "throws 1/0;", 2, 9);
        x.image(false);
        due("fault(0) stays", x.fault(0), 2);
        due("fault(1) stays", x.fault(1), 9);
        due("the TAPE is not as it was", Sight.tape(x), 0);
        due("THE LAW is as it was", x.of(0, 8), 50);
        Checks.put(x, "throws 6;");
        x.image(false);
        due("the TAPE stays", Sight.tape(x), 9);
        due("text(0) of it", x.text(0), 1);
        due("of(0, 8)", x.of(0, 8), 6);
        due("fault(0) then", x.fault(0), 0);
        x.image(false);
        due("fault(0) still", x.fault(0), 0);
    }

    private static void imageWithoutUndo() {
        says("THE IMAGE: but what can be undone (nothing then)");
        SaltFigures x = withThree();
        x.image(true);
        due("look(13), when it is taken", x.look(13), 3);
        due("undo()", x.undo(), true);
        x.image(false);
        due("look(13), gone back", x.look(13), 0);
        Checks.refused(x, "undo(), gone back", () -> x.undo());
        String was = Sight.told(x);
        x.days(7);
        due("look(13)", x.look(13), 6);
        x.image(false);
        due("look(13), gone back again", x.look(13), 0);
        x.days(1);
        due("undo() of what is done then", x.undo(), true);
        due("all is as in THE IMAGE", Sight.told(x).equals(was), true);
        Checks.refused(x, "undo() once more", () -> x.undo());
    }

    private static void imageOfTheFull() {
        says("THE IMAGE: as it was when it was taken (THE BOOK of 150 lines)");
        SaltFigures x = Checks.withPersons(1);
        Checks.tell(x, 0, "spills 1000;throws day;", 2);
        x.days(60);
        x.days(60);
        x.days(29);
        x.image(true);
        String was = Sight.told(x);
        due("look(7), when it is taken", x.look(7), 149);
        x.days(60);
        due("look(7)", x.look(7), 150);
        x.image(false);
        due("look(7), gone back", x.look(7), 149);
        due("all is as it was", Sight.told(x).equals(was), true);
        x.days(1);
        x.image(true);
        x.image(false);
        due("look(7), taken when it is full", x.look(7), 150);
        due("book(149, 3)", x.book(149, 3), 149);
        x.set(1, 0, 5);
        x.act(3, 0, 0);
        due("look(7), no more", x.look(7), 150);
        due("book(149, 1)", x.book(149, 1), 0);
    }
}
