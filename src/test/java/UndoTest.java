/** Promises 39 and 40: what goes back, what forgets it, and the image. */
public final class UndoTest {
    public static void main(String[] args) {
        eachGoesBack();
        sixAreKept();
        whatForgets();
        whatDoesNot();
        lawAndHeirsStay();
        imageHoldsAll();
        imageAndUndo();
        imageLeavesTapeAndFault();
        Checks.finish();
    }

    private static void due(String call, long got, long want) {
        Checks.due(call, got, want);
    }

    private static SaltFigures port() {
        SaltFigures x = Checks.withPersons(5, 6, 7);
        Checks.tell(x, 0, "spills 700;", 1);
        Checks.tell(x, 1, "seat 0 person 0;seat 1 person 1;", 2);
        Checks.tell(x, 2, "on 0 wet 5;on 0 scold 1 9;on 0 cattle 9;on 0 die 2;on 0 feast;", 5);
        Checks.tell(x, 3, "person 2 heir 0;", 1);
        x.set(1, 0, 1000);
        x.set(1, 2, 400);
        x.state(12345);
        return x;
    }

    private static String sight(SaltFigures x) {
        StringBuilder s = new StringBuilder();
        for (int what = 0; what < 36; what++) {
            if (what != 13) {
                s.append(x.look(what)).append(' ');
            }
        }
        for (int p = 0; p < 3; p++) {
            for (int what = 0; what <= 10; what++) {
                s.append(x.of(p, what)).append(' ');
            }
        }
        for (int i = 0; i < 150; i++) {
            for (int what = 0; what < 4; what++) {
                s.append(x.book(i, what)).append(' ');
            }
        }
        return s.toString();
    }

    private static void eachGoesBack() {
        SaltFigures x = port();
        String first = sight(x);
        x.days(1);
        Checks.due("39: a day changes", sight(x).equals(first), false);
        Checks.due("39: undo of a day", x.undo(), true);
        Checks.due("39: back", sight(x).equals(first), true);
        int[][] acts = {{0, 0, 0}, {1, 2, 7}, {2, 1, 0}, {3, 0, 0}, {4, 2, 0}};
        for (int[] a : acts) {
            Checks.due("5: act", x.act(a[0], a[1], a[2]), true);
            Checks.due("39: act " + a[0] + " changes", sight(x).equals(first), false);
            due("41: one to undo", x.look(13), 1);
            Checks.due("39: undo of act " + a[0], x.undo(), true);
            Checks.due("39: back from act " + a[0], sight(x).equals(first), true);
            due("41: none to undo", x.look(13), 0);
            Checks.due("39: nothing more", x.undo(), false);
        }
    }

    private static void sixAreKept() {
        SaltFigures x = port();
        x.days(10);
        due("41: six", x.look(13), 6);
        for (int day = 9; day >= 4; day--) {
            Checks.due("39: undo", x.undo(), true);
            due("39: day", x.look(5), day);
        }
        Checks.due("39: no seventh", x.undo(), false);
        x.days(2);
        x.act(2, 0, 0);
        due("41: three", x.look(13), 3);
        x.undo();
        x.undo();
        due("39: day", x.look(5), 5);
        x.act(0, 1, 0);
        due("41: two", x.look(13), 2);
        x.undo();
        x.undo();
        due("39: day", x.look(5), 4);
    }

    private static void whatForgets() {
        for (int i = 0; i < 9; i++) {
            SaltFigures x = port();
            x.days(2);
            due("41: two", x.look(13), 2);
            switch (i) {
                case 0 -> x.state(5);
                case 1 -> x.person(5);
                case 2 -> x.set(0, 0, 5);
                case 3 -> x.set(1, 0, 5);
                case 4 -> x.set(2, 0, 5);
                case 5 -> x.text(1);
                case 6 -> x.text(2);
                case 7 -> {
                    x.image(true);
                    x.image(false);
                }
                default -> x.state(x.look(8));
            }
            due("41: forgotten " + i, x.look(13), 0);
            Checks.due("39: nothing " + i, x.undo(), false);
        }
    }

    private static void whatDoesNot() {
        SaltFigures x = port();
        x.days(2);
        String was = sight(x);
        x.person(10);
        x.set(0, 0, 10);
        x.set(1, 0, -1);
        x.set(2, 0, 10);
        x.set(3, 0, 0);
        x.act(1, 0, 5);
        x.act(9, 0, 5);
        x.days(0);
        x.image(false);
        Checks.refuse(x, 1, "seat;", 1, 4);
        Checks.refuse(x, 2, "on;", 1, 2);
        x.text(4);
        x.feed(1, 2, 3, 4, 5);
        x.end(0);
        x.image(true);
        x.goes(5, 0);
        x.high(0, 9999);
        x.date(2000, 1, 1);
        x.point(1, 1);
        x.weight(1);
        x.row(0, 1);
        x.row(1, 1);
        x.drip(2);
        x.stage(2);
        x.post(2, 2);
        x.heap(2);
        due("41: two still", x.look(13), 2);
        Checks.due("41: as it was", sight(x).equals(was), true);
        Checks.due("39: undo", x.undo(), true);
        due("39: day", x.look(5), 1);
        due("39: what is told for thought stays", x.weighs(1), 1);
        due("39: the date, too", x.week(2000, 1, 2, 2), 1);
    }

    private static void lawAndHeirsStay() {
        SaltFigures x = port();
        x.days(1);
        Checks.tell(x, 0, "throws 77;", 1);
        Checks.tell(x, 3, "person 0 heir 1;person 1 heir 0;", 2);
        due("41: one still", x.look(13), 1);
        Checks.due("39: undo", x.undo(), true);
        due("39: THE LAW stays", x.of(0, 8), 77);
        due("39: HEIRS stay", x.of(1, 10), 0);
        due("41: lines", x.look(9), 1);
        due("41: lines", x.look(12), 2);
    }

    private static void imageHoldsAll() {
        SaltFigures x = port();
        Checks.due("40: none yet", x.image(false), false);
        x.days(1);
        x.date(2000, 1, 1);
        x.point(1, 2);
        x.weight(3);
        x.row(0, 4);
        x.row(1, 4);
        x.drip(5);
        x.stage(6);
        x.post(7, 8);
        x.heap(9);
        String was = sight(x);
        Checks.due("40: taken", x.image(true), true);
        for (int times = 0; times < 2; times++) {
            x.undo();
            x.act(0, 1, 0);
            x.act(3, 0, 0);
            x.days(30);
            x.person(1);
            x.state(99);
            for (int k = 0; k < 4; k++) {
                x.text(k);
            }
            x.date(1700, 1, 1);
            x.point(-1000, 0);
            x.weight(-1);
            x.row(0, -1);
            x.row(1, -1);
            x.drip(-1);
            x.stage(-1);
            x.post(-1, 0);
            x.heap(-1);
            Checks.due("40: gone back to", x.image(false), true);
            Checks.due("40: all is as it was", sight(x).equals(was), true);
            due("40: date", x.week(2000, 1, 1, 2), 0);
            due("40: point", x.hull(0), 1);
            due("40: weight", x.weighs(3), 1);
            due("40: row", x.told(101), 4);
            due("40: shadow", x.shadow(1), 1);
            due("40: drip", x.drips(-1), 5);
            due("40: stage", x.voyage(12, 1), 2);
            due("40: post", x.light(9, 0, 0), 63);
            due("40: heap", x.heaped(0), 7);
        }
    }

    private static void imageAndUndo() {
        SaltFigures x = port();
        x.days(3);
        x.image(true);
        due("40: taking forgets nothing", x.look(13), 3);
        x.undo();
        due("39: day", x.look(5), 2);
        x.image(false);
        due("40: day", x.look(5), 3);
        due("40: nothing to undo then", x.look(13), 0);
        x.days(1);
        Checks.due("39: undo", x.undo(), true);
        due("39: day", x.look(5), 3);
        x.days(2);
        x.image(true);
        x.days(2);
        x.image(false);
        due("40: taken anew", x.look(5), 5);
    }

    private static void imageLeavesTapeAndFault() {
        SaltFigures x = port();
        x.image(true);
        Checks.refuse(x, 0, "spills;", 1, 6);
        Checks.put(x, "runs 1;");
        x.image(false);
        due("40: fault stays", x.fault(0), 1);
        due("40: its place stays", x.fault(1), 6);
        due("40: the TAPE stays", x.text(0), 1);
    }
}
