/** Promises 13 to 38: what is thought, of days and of what is told for it. */
public final class ThoughtTest {
    public static void main(String[] args) {
        goes();
        high();
        door();
        dates();
        weeks();
        points();
        hulls();
        turned();
        weights();
        coins();
        slabs();
        shadows();
        drips();
        told();
        switches();
        voyages();
        lights();
        heaps();
        games();
        Checks.finish();
    }

    private static void due(String call, long got, long want) {
        Checks.due(call, got, want);
    }

    private static void goes() {
        SaltFigures x = Checks.withPersons(5, 0);
        Checks.tell(x, 0, "spills 499 when belief=0;", 1);
        Checks.tell(x, 1, "seat 0 person 0;", 1);
        Checks.tell(x, 2, "on 1 cattle 30;on 2 feast;on 2 wet 3;", 3);
        int state = x.look(8);
        // 50 a day; day 1 less 30; day 2 twice 50, then 3 runs of 170
        int[][] then = {{50, 0, 1, 0}, {70, 0, 2, 30}, {167, 3, 4, 30}};
        for (int n = 1; n <= 3; n++) {
            for (int what = 0; what < 4; what++) {
                due("13: goes(" + n + ", " + what + ")", x.goes(n, what), then[n - 1][what]);
            }
        }
        due("13: nothing stays", x.look(5) + x.look(3) + x.look(7) + x.of(0, 1) + x.of(0, 2), 0);
        due("13: no draws", x.look(8), state);
        due("13: goes(0, 0)", x.goes(0, 0), -1);
        due("13: goes(61, 0)", x.goes(61, 0), -1);
        due("13: goes(1, 4)", x.goes(1, 4), -1);
        due("13: goes(1, -1)", x.goes(1, -1), -1);
        Checks.tell(x, 0, "spills 500;", 1);
        due("13: 500 at least", x.goes(60, 2), 121);
    }

    private static void high() {
        SaltFigures x = Checks.withPersons(5, 1);
        due("14: first day", x.high(0, 50), 1);
        due("14: second day", x.high(0, 51), 2);
        due("14: within 60", x.high(0, 3000), 60);
        due("14: not within 60", x.high(0, 3001), -1);
        x.set(1, 0, 9);
        due("14: now", x.high(0, 9), 0);
        due("14: v 0", x.high(0, 0), -1);
        due("14: v 10000", x.high(0, 10000), -1);
        due("14: nobody", x.high(2, 5), -1);
        due("14: nobody", x.high(-1, 5), -1);
        Checks.tell(x, 2, "on 2 die 0;", 1);
        due("14: ahead of it", x.high(0, 109), 2);
        due("14: died meanwhile", x.high(0, 110), -1);
        x.act(4, 1, 0);
        due("14: not alive", x.high(1, 5), -1);
        due("14: nothing stays", x.look(5), 0);
    }

    private static void door() {
        SaltFigures x = Checks.withPersons(0, 0, 0, 0, 0);
        Checks.tell(x, 1, "seat 3 person 0;seat 4 person 1;seat 5 person 2;seat 7 person 3;seat 15 person 4;", 5);
        int[] salt = {299, 400, 299, 399, 99};
        for (int i = 0; i < 5; i++) {
            x.set(1, i, salt[i]);
        }
        due("15: product", x.door(0), 6);
        due("15: first", x.door(1), 3);
        due("15: last", x.door(2), 5);
        x.set(1, 3, 699);
        due("15: of several the least first", x.door(1), 3);
        x.set(1, 3, 700);
        due("15: product", x.door(0), 7);
        due("15: first", x.door(1), 7);
        due("15: last", x.door(2), 7);
        due("15: another what", x.door(3), -1);
        due("15: another what", x.door(-1), -1);
        SaltFigures y = Checks.withPersons(0, 0);
        Checks.tell(y, 1, "seat 0 person 0;seat 1 person 1;", 2);
        y.set(1, 0, 200);
        y.set(1, 1, 100);
        due("15: of several the least last", y.door(2), 0);
        y.set(1, 0, 99);
        y.set(1, 1, 99);
        due("15: 0", y.door(0), 0);
        due("15: none", y.door(1), -1);
        due("15: none", y.door(2), -1);
    }

    private static void dates() {
        SaltFigures x = new SaltFigures();
        int[][] none = {{1599, 12, 31}, {2401, 1, 1}, {2000, 0, 1}, {2000, 13, 1}, {2000, 1, 0}, {2000, 1, 32}, {2000, 4, 31},
            {1900, 2, 29}, {2000, 2, 30}, {2001, 2, 29}, {Integer.MIN_VALUE, 1, 1}, {2000, Integer.MAX_VALUE, 1}};
        for (int[] d : none) {
            Checks.due("16: " + d[0] + " " + d[1] + " " + d[2], x.date(d[0], d[1], d[2]), false);
            for (int what = 0; what < 3; what++) {
                due("17: " + d[0] + " " + d[1] + " " + d[2], x.week(d[0], d[1], d[2], what), -1000000);
            }
        }
        due("17: from 1600, 1, 1", x.week(2400, 12, 31, 2), 800 * 365 + 194 + 1 + 364);
        int[][] some = {{1600, 2, 29}, {2000, 2, 29}, {2400, 2, 29}, {1996, 2, 29}, {2400, 12, 31}};
        for (int[] d : some) {
            Checks.due("16: " + d[0] + " " + d[1] + " " + d[2], x.date(d[0], d[1], d[2]), true);
            due("17: from itself", x.week(d[0], d[1], d[2], 2), 0);
        }
        due("17: ahead of it", x.week(2400, 1, 1, 2), -365);
    }

    private static void weeks() {
        SaltFigures x = new SaltFigures();
        due("17: 2026, 11, 18 was a Wednesday", x.week(2026, 11, 18, 0), 3);
        due("17: 1600, 1, 1 was a Saturday", x.week(1600, 1, 1, 0), 6);
        due("17: 1969, 7, 20 was a Sunday", x.week(1969, 7, 20, 0), 0);
        due("17: 1900, 3, 1 was a Thursday", x.week(1900, 3, 1, 0), 4);
        due("17: Fridays of 2026", x.week(2026, 5, 5, 1), 3);
        due("17: Fridays of 2024", x.week(2024, 2, 29, 1), 2);
        due("17: Fridays of 2021", x.week(2021, 1, 1, 1), 1);
        due("17: another what", x.week(2024, 1, 1, 3), -1000000);
        due("17: another what", x.week(2024, 1, 1, -1), -1000000);
        Plain y = new Plain();
        for (int year = 1600; year <= 2400; year++) {
            for (int m = 1; m <= 12; m++) {
                due("17: " + year + " " + m, x.week(year, m, 1 + year % 28, 0), y.week(year, m, 1 + year % 28, 0));
                due("17: " + year + " " + m, x.week(year, m, 1 + year % 28, 2), y.week(year, m, 1 + year % 28, 2));
            }
            due("17: " + year, x.week(year, 1, 1, 1), y.week(year, 1, 1, 1));
        }
    }

    private static void points() {
        SaltFigures x = new SaltFigures();
        due("18: point(100, 0)", x.point(100, 0), -1);
        due("18: point(0, 100)", x.point(0, 100), -1);
        due("18: point(-100, 0)", x.point(-100, 0), -1);
        due("18: point(0, -100)", x.point(0, -100), -1);
        due("19: none told", x.side(0, 1, 0), -2);
        due("18: first", x.point(-99, -99), 1);
        due("18: again", x.point(-99, -99), -1);
        due("18: second", x.point(99, 99), 2);
        due("18: third", x.point(-99, 99), 3);
        due("18: fourth", x.point(-1, 5), 4);
        due("19: left", x.side(0, 1, 2), 1);
        due("19: right", x.side(1, 0, 2), -1);
        due("19: itself", x.side(0, 1, 1), 0);
        due("19: alike", x.side(1, 1, 2), -2);
        due("19: no such", x.side(0, 1, 4), -2);
        due("19: no such", x.side(-1, 1, 0), -2);
        due("19: no such", x.side(0, 4, 0), -2);
        for (int i = 5; i <= 8; i++) {
            due("18: more", x.point(i, 0), i);
        }
        due("18: the ninth", x.point(50, 50), -1);
        due("18: none is then", x.point(-1000, 5000), 0);
        due("20: none", x.hull(0), 0);
        due("18: again", x.point(-99, -99), 1);
    }

    private static void hulls() {
        SaltFigures x = new SaltFigures();
        due("20: another what", x.hull(2), -1);
        due("20: another what", x.hull(-1), -1);
        x.point(1, 1);
        due("20: one", x.hull(0), 1);
        due("20: one", x.hull(1), 0);
        x.point(3, 2);
        due("20: two", x.hull(0), 2);
        due("20: two", x.hull(1), 0);
        x.point(-5, -2);
        x.point(5, 3);
        due("20: straight", x.hull(0), 2);
        due("20: straight", x.hull(1), 0);
        x.point(1, 0);
        due("20: three corners", x.hull(0), 3);
        due("20: twice the area", x.hull(1), 10);
        x.point(-1000, 0);
        int[][] p = {{0, 0}, {2, 0}, {4, 0}, {4, 4}, {2, 4}, {0, 4}, {0, 2}, {1, 1}};
        for (int[] q : p) {
            x.point(q[0], q[1]);
        }
        due("20: no corners on edges", x.hull(0), 4);
        due("20: twice the area", x.hull(1), 32);
    }

    private static void turned() {
        SaltFigures x = new SaltFigures();
        Plain y = new Plain();
        for (int n = 0; n <= 99999; n++) {
            due("21: turned(" + n + ", 0)", x.turned(n, 0), y.turned(n, 0));
            due("21: turned(" + n + ", 1)", x.turned(n, 1), y.turned(n, 1));
        }
        due("21: 195", x.turned(195, 1), 9339);
        due("21: 195", x.turned(195, 0), 4);
        due("21: 10", x.turned(10, 1), 11);
        due("21: 196", x.turned(196, 1), -1);
        due("21: 100000", x.turned(100000, 0), -1);
        due("21: -1", x.turned(-1, 1), -1);
        due("21: another what", x.turned(5, 2), -1);
        due("21: another what", x.turned(5, -1), -1);
    }

    private static void weights() {
        SaltFigures x = new SaltFigures();
        due("22: weight(0)", x.weight(0), -1);
        due("22: weight(61)", x.weight(61), -1);
        due("22: weight(-2)", x.weight(-2), -1);
        due("23: nothing", x.weighs(0), 1);
        int[] w = {1, 3, 9, 27, 60, 60};
        for (int i = 0; i < 6; i++) {
            due("22: weight", x.weight(w[i]), i + 1);
        }
        due("22: the seventh", x.weight(5), -1);
        due("23: 160", x.weighs(160), 1);
        due("23: 161", x.weighs(161), 0);
        due("23: 0: none, or the two by turns", x.weighs(0), 3);
        due("23: how many", x.weighs(-1), 160);
        due("23: 360", x.weighs(360), 0);
        due("23: 361", x.weighs(361), -1);
        due("23: -2", x.weighs(-2), -1);
        due("22: none is then", x.weight(-1), 0);
        for (int i = 0; i < 6; i++) {
            x.weight(60);
        }
        due("23: 360", x.weighs(360), 1);
        due("23: 300", x.weighs(300), 6);
        due("23: how many", x.weighs(-1), 6);
    }

    private static void coins() {
        SaltFigures x = new SaltFigures();
        int[][] heavy = {{1, 0}, {2, 1}, {3, 1}, {4, 2}, {9, 2}, {10, 3}, {27, 3}, {28, 4}, {81, 4}, {82, 5}, {100, 5}};
        for (int[] c : heavy) {
            due("24: coins(" + c[0] + ", 1)", x.coins(c[0], 1), c[1]);
        }
        int[][] either = {{1, 0}, {2, -1}, {3, 2}, {4, 2}, {5, 3}, {12, 3}, {13, 3}, {14, 4}, {40, 4}, {41, 5}, {100, 5}};
        for (int[] c : either) {
            due("24: coins(" + c[0] + ", 0)", x.coins(c[0], 0), c[1]);
        }
        due("24: coins(0, 1)", x.coins(0, 1), -1);
        due("24: coins(101, 1)", x.coins(101, 1), -1);
        due("24: coins(5, 2)", x.coins(5, 2), -1);
        due("24: coins(5, -1)", x.coins(5, -1), -1);
    }

    private static void slabs() {
        SaltFigures x = new SaltFigures();
        Plain y = new Plain();
        for (int n = -1; n <= 41; n++) {
            due("25: slabs(" + n + ")", x.slabs(n), y.slabs(n));
        }
        due("25: slabs(8)", x.slabs(8), 153);
        due("25: slabs(39)", x.slabs(39), 0);
    }

    private static void shadows() {
        SaltFigures x = new SaltFigures();
        due("26: row(-1, 0)", x.row(-1, 0), -1);
        due("26: row(2, -1)", x.row(2, -1), -1);
        due("26: row(0, 10)", x.row(0, 10), -1);
        due("26: row(0, -2)", x.row(0, -2), -1);
        x.row(1, 0);
        due("27: not of nothing", x.shadow(0), 0);
        due("27: no ways", x.shadow(1), 0);
        x.row(1, -1);
        for (int i = 1; i <= 10; i++) {
            due("26: row(0, 0)", x.row(0, 0), i);
        }
        due("26: the eleventh", x.row(0, 0), -1);
        due("27: the second empty", x.shadow(0), 1);
        due("27: all left out", x.shadow(1), 1);
        for (int i = 1; i <= 5; i++) {
            due("26: row(1, 0)", x.row(1, 0), i);
        }
        due("27: 5 of 10", x.shadow(1), 252);
        due("27: whether", x.shadow(0), 1);
        due("26: empty", x.row(0, -1), 0);
        due("27: longer", x.shadow(0), 0);
        due("27: another what", x.shadow(2), -1);
        due("27: another what", x.shadow(-1), -1);
    }

    private static void drips() {
        SaltFigures x = new SaltFigures();
        due("28: drip(1)", x.drip(1), -1);
        due("28: drip(31)", x.drip(31), -1);
        due("29: none told", x.drips(-1), -1);
        due("29: none told", x.drips(10000), 10000);
        int[] p = {29, 28, 27, 25, 23, 19};
        for (int i = 0; i < 6; i++) {
            due("28: drip", x.drip(p[i]), i + 1);
        }
        due("28: the seventh", x.drip(2), -1);
        due("29: all at once", x.drips(-1), 239519700);
        due("29: none ahead of the first", x.drips(18), 18);
        due("29: the first", x.drips(19), 18);
        due("28: none is then", x.drip(-1), 0);
        x.drip(4);
        x.drip(6);
        x.drip(6);
        due("29: 4, 6", x.drips(12), 8);
        due("29: 4, 6 at once", x.drips(-1), 12);
        due("29: drips(0)", x.drips(0), 0);
        due("29: drips(10001)", x.drips(10001), -1);
        due("29: drips(-2)", x.drips(-2), -1);
    }

    private static void told() {
        SaltFigures x = new SaltFigures();
        due("30: empty", x.told(0), 0);
        due("30: none such", x.told(100), -1);
        for (int i = 0; i < 10; i++) {
            x.row(0, 7);
        }
        due("30: ten sevens", x.told(0), 2);
        due("30: how often", x.told(100), 10);
        due("30: what", x.told(101), 7);
        due("30: none such", x.told(102), -1);
        x.row(0, -1);
        for (int i = 0; i < 10; i++) {
            x.row(0, i % 2);
        }
        due("30: twenty", x.told(0), 20);
        due("30: the last", x.told(119), 1);
        due("30: none such", x.told(120), -1);
        int[] lengths = {1, 2, 2, 4, 6, 6, 8, 10, 14, 20, 26};
        for (int k = 0; k <= 10; k++) {
            due("30: told(200 + " + k + ")", x.told(200 + k), lengths[k]);
        }
        for (int what : new int[] {-1, 1, 99, 199, 211, Integer.MIN_VALUE}) {
            due("30: told(" + what + ")", x.told(what), -1);
        }
        due("30: of row 0 still", x.told(100), 1);
    }

    private static void switches() {
        SaltFigures x = new SaltFigures();
        for (int v = 0; v < 1024; v++) {
            int sight = x.switches(v, 0);
            due("31: back", x.switches(sight, 1), v);
            due("31: one lamp", v == 0 ? 1 : Integer.bitCount(sight ^ x.switches(v - 1, 0)), 1);
        }
        due("31: 1023", x.switches(1023, 0), 512);
        due("31: 1024", x.switches(1024, 1), -1);
        due("31: -1", x.switches(-1, 0), -1);
        due("31: another what", x.switches(5, 2), -1);
    }

    private static void voyages() {
        SaltFigures x = new SaltFigures();
        due("32: stage(0)", x.stage(0), -1);
        due("32: stage(21)", x.stage(21), -1);
        due("33: none told", x.voyage(3, 0), 0);
        due("33: none told", x.voyage(3, 1), -1);
        for (int i = 1; i <= 6; i++) {
            due("32: stage", x.stage(2 * i), i);
        }
        due("32: told again of six", x.stage(12), 6);
        due("32: the seventh", x.stage(13), -1);
        due("33: odd", x.voyage(199, 0), 0);
        due("33: odd", x.voyage(199, 1), -1);
        due("33: 4", x.voyage(4, 0), 2);
        due("33: 200", x.voyage(200, 1), 17);
        due("32: none is then", x.stage(-1), 0);
        x.stage(1);
        x.stage(2);
        due("33: 10", x.voyage(10, 0), 89);
        due("33: modulo", x.voyage(60, 0), (int) (2504730781961L % 1000000007L));
        due("33: l 0", x.voyage(0, 0), -1);
        due("33: l 201", x.voyage(201, 1), -1);
        due("33: another what", x.voyage(5, 2), -1);
    }

    private static void lights() {
        SaltFigures x = new SaltFigures();
        due("34: post(0, 1)", x.post(0, 1), -1);
        due("34: post(100, 1)", x.post(100, 1), -1);
        due("34: post(1, 0)", x.post(1, 0), -1);
        due("34: post(1, 61)", x.post(1, 61), -1);
        due("35: none told", x.light(5, 0, 0), -2);
        due("35: none told", x.light(5, 0, 2), 0);
        due("34: post(12, 4)", x.post(12, 4), 1);
        due("34: post(30, 1)", x.post(30, 1), 2);
        due("34: post(12, 5)", x.post(12, 5), 3);
        due("34: post(6, 20)", x.post(6, 20), 4);
        // at 10: 10 * 12 / 6 = 20 / 1; 10 * 30 / 9 = 100 / 3
        due("35: above", x.light(10, 0, 0), 20);
        due("35: below", x.light(10, 0, 1), 1);
        due("35: above", x.light(10, 1, 0), 100);
        due("35: below", x.light(10, 1, 1), 3);
        due("35: never", x.light(20, 3, 0), 1);
        due("35: never", x.light(20, 3, 1), 0);
        due("35: only the high one near 0", x.light(10, 77, 2), 1);
        due("35: h 0", x.light(0, 0, 2), -2);
        due("35: h 61", x.light(61, 0, 2), -2);
        due("35: no such post", x.light(10, 4, 1), -2);
        due("35: no such post", x.light(10, -1, 0), -2);
        due("35: another what", x.light(10, 0, 3), -2);
        due("34: none is then", x.post(-1, 0), 0);
        x.post(10, 5);
        x.post(12, 4);
        // at 10 the ray at 12 is at 10 - 12 * 5 / 10 = 4: not below
        due("35: strictly", x.light(10, 0, 2), 1);
        x.post(13, 4);
        // at 13 both rays are at 3 1/2
        due("35: below it", x.light(10, 0, 2), 2);
        for (int i = 4; i <= 8; i++) {
            due("34: more", x.post(99, 60), i);
        }
        due("34: the ninth", x.post(99, 60), -1);
        // from 59 the first three shade nobody; of five at 99 the first has the ray at 60, the height of the others
        due("35: as near, told ahead", x.light(59, 0, 2), 4);
    }

    private static void heaps() {
        SaltFigures x = new SaltFigures();
        due("36: heap(100)", x.heap(100), -1);
        due("36: heap(-2)", x.heap(-2), -1);
        due("37: none told", x.heaped(0), 0);
        x.heap(2);
        due("37: 2 stands", x.heaped(0), 0);
        x.heap(4);
        x.heap(7);
        // 2 4 7: 2 5 6, 3 4 6 by turns of the greatest place: 7 - 4: 2 5 6; 5 - 2: 3 4 6; 3: 2 4 6; then 4 - 2, 6 - 4 stand
        due("37: falls", x.heaped(0), 3);
        due("37: at 0", x.heaped(1), 2);
        due("37: at 1", x.heaped(2), 4);
        due("37: at 2", x.heaped(3), 6);
        due("37: none such", x.heaped(4), -1);
        due("37: none such", x.heaped(-1), -1);
        due("37: what is told stays", x.heaped(0), 3);
        due("36: none is then", x.heap(-1), 0);
        for (int i = 1; i <= 8; i++) {
            due("36: heap(99)", x.heap(99), i);
        }
        due("36: the ninth", x.heap(5), -1);
        for (int i = 0; i < 8; i++) {
            due("37: as steep as can be", x.heaped(1 + i), 2 * (i + 1));
        }
        // each of 792 grains but the 72 that stay falls from its place past 0
        int falls = 0;
        for (int i = 0; i < 8; i++) {
            falls += (i + 1) * (99 - 2 * (i + 1));
        }
        due("37: falls", x.heaped(0), falls);
    }

    private static void games() {
        SaltFigures x = new SaltFigures();
        Plain y = new Plain();
        for (int n = 0; n <= 301; n++) {
            for (int what = -1; what < 4; what++) {
                due("38: game(" + n + ", " + what + ")", x.game(n, what), y.game(n, what));
            }
        }
    }
}
