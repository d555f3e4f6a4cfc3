/** The sentences of promises 16 to 38 that name a bound: of what is told for thought and of what is thought. */
public final class ThoughtBoundsTest {
    private static final int MIN = Integer.MIN_VALUE;
    private static final int MAX = Integer.MAX_VALUE;

    /** Tells one number of a row, or, with NONE, that it is empty. */
    interface Teller {
        int tell(int v);
    }

    public static void main(String[] args) {
        datesThere();
        datesNotThere();
        daysOfTheWeek();
        fridays();
        daysBetween();
        pointNumbers();
        pointsOfOneKind();
        sides();
        hullOfFew();
        hullOfMany();
        turned();
        turnedTooFar();
        weightsTold();
        weighings();
        coinsBounds();
        coinsOneMore();
        slabs();
        rowsTold();
        shadows();
        dripsTold();
        dripping();
        toldOfRow();
        toldAgain();
        switches();
        stagesTold();
        voyages();
        voyageModulo();
        postsTold();
        rays();
        litOrNot();
        strictly();
        heapsTold();
        falling();
        lyingThen();
        games();
        inAnyOrder();
        Checks.finish();
    }

    private static void says(String sentence) {
        Checks.says(sentence);
    }

    private static void due(String call, long got, long want) {
        Checks.due(call, got, want);
    }

    private static void due(String call, boolean got, boolean want) {
        Checks.due(call, got, want);
    }

    /** A row that takes least .. most, so many numbers: both bounds, one beyond, the full one, the empty one. */
    private static void row(SaltFigures x, String name, Teller t, int least, int most, int room) {
        due(name + "(NONE) of an empty one", t.tell(-1), 0);
        for (int v : new int[] {MIN, -2, least == 0 ? -3 : least == 1 ? 0 : least - 1, most + 1, MAX}) {
            Checks.refused(x, name + "(" + v + ")", () -> t.tell(v), -1);
        }
        for (int times = 0; times < 2; times++) {
            for (int i = 1; i <= room; i++) {
                due(name + " the " + i + "-th", t.tell(i % 2 == 0 ? most : least), i);
                for (int v : new int[] {MIN, -2, most + 1, MAX}) {
                    int wrong = v;
                    Checks.refused(x, name + "(" + v + ") behind " + i, () -> t.tell(wrong), -1);
                }
            }
            for (int v : new int[] {least, least + 1, most - 1, most}) {
                Checks.refused(x, name + "(" + v + ") of a full one", () -> t.tell(v), -1);
            }
            due(name + "(NONE) of a full one", t.tell(-1), 0);
        }
    }

    private static int length(int y, int m) {
        boolean leap = y % 400 == 0 || y % 4 == 0 && y % 100 != 0;
        return m == 2 ? leap ? 29 : 28 : m == 4 || m == 6 || m == 9 || m == 11 ? 30 : 31;
    }

    private static void datesThere() {
        says("day d of month m of year y (1600 .. 2400; a leap year by 4, not by 100 but by 400); 16: true; false if there is no such date");
        for (int y : new int[] {1600, 1601, 1604, 1700, 1800, 1900, 1904, 2000, 2023, 2024, 2100, 2200, 2300, 2396, 2399, 2400}) {
            SaltFigures x = new SaltFigures();
            for (int m = 1; m <= 12; m++) {
                int most = length(y, m);
                for (int d : new int[] {1, 28, most}) {
                    due("date(" + y + ", " + m + ", " + d + ")", x.date(y, m, d), true);
                    due("week of it, 2", x.week(y, m, d, 2), 0);
                    for (int what = 0; what < 3; what++) {
                        due("week(" + y + ", " + m + ", " + d + ", " + what + ") told", x.week(y, m, d, what) != -1000000, true);
                    }
                }
                int month = m;
                for (int d : new int[] {MIN, -1, 0, most + 1, 32, MAX}) {
                    Checks.refused(x, "date(" + y + ", " + m + ", " + d + ")", () -> x.date(y, month, d));
                    for (int what = 0; what < 3; what++) {
                        due("week(" + y + ", " + m + ", " + d + ", " + what + ")", x.week(y, m, d, what), -1000000);
                    }
                }
            }
        }
    }

    private static void datesNotThere() {
        says("16: false; 17: NONE - 999999 if there is no such date, or another what");
        SaltFigures x = new SaltFigures();
        x.date(2000, 2, 29);
        int[][] none = {{1599, 12, 31}, {1599, 1, 1}, {2401, 1, 1}, {2401, 12, 31}, {0, 1, 1}, {-1, 1, 1}, {MIN, 1, 1}, {MAX, 1, 1},
            {2000, 0, 1}, {2000, 13, 1}, {2000, -1, 1}, {2000, MIN, 1}, {2000, MAX, 1}};
        for (int[] d : none) {
            String date = "(" + d[0] + ", " + d[1] + ", " + d[2];
            Checks.refused(x, "date" + date + ")", () -> x.date(d[0], d[1], d[2]));
            for (int what = -1; what <= 3; what++) {
                due("week" + date + ", " + what + ")", x.week(d[0], d[1], d[2], what), -1000000);
            }
        }
        for (int what : new int[] {MIN, -1, 3, 4, MAX}) {
            due("week(2000, 1, 1, " + what + ")", x.week(2000, 1, 1, what), -1000000);
        }
        due("the date told stays", x.week(2000, 3, 1, 2), 1);
    }

    private static void daysOfTheWeek() {
        says("WEEK: the day of the week (0 Sunday .. 6 Saturday)");
        SaltFigures x = new SaltFigures();
        for (int d = 0; d < 15; d++) {
            due("week(2026, 11, " + (15 + d) + ", 0)", x.week(2026, 11, 15 + d, 0), d % 7);
        }
        due("week(1600, 1, 1, 0)", x.week(1600, 1, 1, 0), 6);
        due("week(1600, 1, 2, 0)", x.week(1600, 1, 2, 0), 0);
        due("week(2400, 12, 31, 0)", x.week(2400, 12, 31, 0), 0);
        due("week(2400, 12, 30, 0)", x.week(2400, 12, 30, 0), 6);
        int[][] ahead = {{1600, 2, 29, 2}, {1600, 3, 1, 3}, {1700, 2, 28, 0}, {1700, 3, 1, 1}, {1900, 2, 28, 3}, {1900, 3, 1, 4},
            {2000, 2, 29, 2}, {2000, 3, 1, 3}, {2100, 2, 28, 0}, {2100, 3, 1, 1}, {1999, 12, 31, 5}, {2000, 1, 1, 6}};
        for (int[] d : ahead) {
            due("week(" + d[0] + ", " + d[1] + ", " + d[2] + ", 0)", x.week(d[0], d[1], d[2], 0), d[3]);
        }
        int[][] first = {{1601, 1}, {1605, 6}, {1700, 5}, {1701, 6}, {1705, 4}, {1800, 3}, {1801, 4}, {1805, 2}, {1900, 1}, {1901, 2},
            {1904, 5}, {1905, 0}, {2000, 6}, {2001, 1}, {2004, 4}, {2005, 6}, {2025, 3}, {2100, 5}, {2101, 6}, {2200, 3}, {2201, 4},
            {2300, 1}, {2301, 2}, {2399, 5}, {2400, 6}};
        for (int[] f : first) {
            due("week(" + f[0] + ", 1, 1, 0)", x.week(f[0], 1, 1, 0), f[1]);
        }
        x.date(2400, 12, 31);
        due("the date told does not matter", x.week(1600, 1, 1, 0), 6);
    }

    private static void fridays() {
        says("how many months of year y have a Friday on day 13; 17: 1 Fridays (m, d asked, too)");
        SaltFigures x = new SaltFigures();
        int least = 9;
        int most = 0;
        for (int y = 1600; y <= 2400; y++) {
            int n = 0;
            for (int m = 1; m <= 12; m++) {
                n += x.week(y, m, 13, 0) == 5 ? 1 : 0;
            }
            due("week(" + y + ", 1, 1, 1)", x.week(y, 1, 1, 1), n);
            due("week(" + y + ", 12, 31, 1)", x.week(y, 12, 31, 1), n);
            least = Math.min(least, n);
            most = Math.max(most, n);
        }
        due("the fewest of all years", least, 1);
        due("the most of all years", most, 3);
        due("week(2026, 2, 29, 1)", x.week(2026, 2, 29, 1), -1000000);
        due("week(2026, 0, 1, 1)", x.week(2026, 0, 1, 1), -1000000);
    }

    private static void daysBetween() {
        says("how many days from one told date (at first 1600, 1, 1) to it (below 0: ahead of it)");
        SaltFigures x = new SaltFigures();
        due("week(1600, 1, 1, 2)", x.week(1600, 1, 1, 2), 0);
        due("week(1600, 1, 2, 2)", x.week(1600, 1, 2, 2), 1);
        due("week(1600, 12, 31, 2)", x.week(1600, 12, 31, 2), 365);
        due("week(2400, 12, 31, 2)", x.week(2400, 12, 31, 2), 292559);
        for (int y = 1600; y < 2400; y++) {
            due("a year of days from " + y, x.week(y + 1, 1, 1, 2) - x.week(y, 1, 1, 2), length(y, 2) + 337);
            due("a day at the end of " + y, x.week(y + 1, 1, 1, 2) - x.week(y, 12, 31, 2), 1);
        }
        x.date(2400, 12, 31);
        due("from the last, week(2400, 12, 31, 2)", x.week(2400, 12, 31, 2), 0);
        due("from the last, week(2400, 12, 30, 2)", x.week(2400, 12, 30, 2), -1);
        due("from the last, week(1600, 1, 1, 2)", x.week(1600, 1, 1, 2), -292559);
        x.date(1900, 2, 28);
        due("week(1900, 3, 1, 2)", x.week(1900, 3, 1, 2), 1);
        x.date(2000, 2, 28);
        due("week(2000, 3, 1, 2)", x.week(2000, 3, 1, 2), 2);
        due("week(2000, 2, 27, 2)", x.week(2000, 2, 27, 2), -1);
    }

    private static void pointNumbers() {
        says("up to 8 told points (x, y -99 .. 99 each, no two one); 18: NONE if one can't be");
        SaltFigures x = new SaltFigures();
        int[][] beyond = {{100, 0}, {-100, 0}, {0, 100}, {0, -100}, {MAX, 0}, {MIN, 0}, {0, MAX}, {0, MIN}, {-999, 0}, {-1001, 0},
            {0, -1000}, {-1, 100}, {100, 100}};
        for (int told = 0; told < 2; told++) {
            for (int[] p : beyond) {
                Checks.refused(x, "point(" + p[0] + ", " + p[1] + ")", () -> x.point(p[0], p[1]), -1);
            }
            x.point(5, 5);
        }
        due("point(NONE - 999, 0)", x.point(-1000, 0), 0);
        int[][] edge = {{99, 99}, {99, -99}, {-99, 99}, {-99, -99}, {0, 99}, {-1, -1}, {0, 0}, {-99, 0}};
        for (int i = 0; i < 8; i++) {
            due("point(" + edge[i][0] + ", " + edge[i][1] + ")", x.point(edge[i][0], edge[i][1]), i + 1);
        }
        says("18: or there are eight");
        Checks.refused(x, "point(7, 7), the ninth", () -> x.point(7, 7), -1);
        Checks.refused(x, "point(99, 99), there already", () -> x.point(99, 99), -1);
        says("18: x NONE - 999: none is then");
        for (int y : new int[] {MIN, -1000, 100, MAX, 0}) {
            x.point(3, 3);
            due("point(NONE - 999, " + y + ")", x.point(-1000, y), 0);
            due("hull(0) then", x.hull(0), 0);
        }
        due("point(99, 99) once more", x.point(99, 99), 1);
    }

    private static void pointsOfOneKind() {
        says("18: NONE if one can't be (there already)");
        SaltFigures x = new SaltFigures();
        due("point(1, 2)", x.point(1, 2), 1);
        Checks.refused(x, "point(1, 2) again", () -> x.point(1, 2), -1);
        due("point(2, 1)", x.point(2, 1), 2);
        due("point(1, 3)", x.point(1, 3), 3);
        due("point(0, 2)", x.point(0, 2), 4);
        for (int[] p : new int[][] {{1, 2}, {2, 1}, {1, 3}, {0, 2}}) {
            Checks.refused(x, "point(" + p[0] + ", " + p[1] + ") again", () -> x.point(p[0], p[1]), -1);
        }
    }

    private static void sides() {
        says("SIDE of point p, going from a to b (unlike): 1 on the left, -1 on the right, 0 straight");
        SaltFigures x = new SaltFigures();
        due("side(0, 1, 0) of none", x.side(0, 1, 0), -2);
        x.point(-99, -99);
        due("side(0, 1, 0) of one", x.side(0, 1, 0), -2);
        due("side(0, 0, 0) of one", x.side(0, 0, 0), -2);
        x.point(99, 99);
        x.point(99, 98);
        x.point(98, 99);
        x.point(0, 0);
        int[][] told = {{0, 1, 2, -1}, {0, 1, 3, 1}, {0, 1, 4, 0}, {1, 0, 2, 1}, {1, 0, 3, -1}, {1, 0, 4, 0}, {0, 1, 0, 0}, {0, 1, 1, 0},
            {0, 4, 1, 0}, {4, 0, 1, 0}, {2, 3, 0, 1}, {3, 2, 0, -1}};
        for (int[] s : told) {
            due("side(" + s[0] + ", " + s[1] + ", " + s[2] + ")", x.side(s[0], s[1], s[2]), s[3]);
        }
        says("19: of points told (from 0). NONE - 1 if one can't be (a and b alike)");
        for (int i : new int[] {MIN, -1, 5, 6, 8, MAX}) {
            due("side(" + i + ", 1, 2)", x.side(i, 1, 2), -2);
            due("side(0, " + i + ", 2)", x.side(0, i, 2), -2);
            due("side(0, 1, " + i + ")", x.side(0, 1, i), -2);
            due("side(" + i + ", " + i + ", 0)", x.side(i, i, 0), -2);
        }
        for (int i = 0; i < 5; i++) {
            due("side(" + i + ", " + i + ", 0)", x.side(i, i, 0), -2);
        }
        x.point(-1000, 0);
        due("side(0, 1, 2) of none again", x.side(0, 1, 2), -2);
    }

    private static void hull(int corners, int area, int... xy) {
        SaltFigures x = new SaltFigures();
        StringBuilder s = new StringBuilder();
        for (int i = 0; i < xy.length; i += 2) {
            due("point", x.point(xy[i], xy[i + 1]), i / 2 + 1);
            s.append(' ').append(xy[i]).append(',').append(xy[i + 1]);
        }
        due("hull(0) of" + s, x.hull(0), corners);
        due("hull(1) of" + s, x.hull(1), area);
        for (int what : new int[] {MIN, -1, 2, 3, MAX}) {
            due("hull(" + what + ") of" + s, x.hull(what), -1);
        }
    }

    private static void hullOfFew() {
        says("1, 2 points: all; all straight: 2; twice its area (all straight: 0); 20: (fewer than three: 0; none told: 0, 0). NONE for another what");
        hull(0, 0);
        hull(1, 0, 0, 0);
        hull(1, 0, -99, 99);
        hull(2, 0, 0, 0, 0, 1);
        hull(2, 0, -99, -99, 99, 99);
        hullTurned(2, 0, 7, 9, -3, 5);
        hullTurned(2, 0, -7, 9, 3, 5);
        hullTurned(2, 0, -7, -9, -3, 5);
        hullTurned(2, 0, 1, 5, 2, 9, 4, 17);
        hull(2, 0, 0, 0, 0, 1, 0, 2);
        hull(2, 0, 5, 0, 1, 0, 3, 0);
        hull(2, 0, 3, 3, 1, 1, 2, 2, 0, 0, 4, 4, 7, 7, 6, 6, 5, 5);
        hull(2, 0, -3, 3, 3, -3, 0, 0);
        hull(3, 1, 0, 0, 1, 0, 0, 1);
    }

    /** The same points, told from each of them on, and from behind. */
    private static void hullTurned(int corners, int area, int... xy) {
        for (int from = 0; from < xy.length; from += 2) {
            int[] on = new int[xy.length];
            int[] back = new int[xy.length];
            for (int i = 0; i < xy.length; i += 2) {
                int at = (from + i) % xy.length;
                on[i] = xy[at];
                on[i + 1] = xy[at + 1];
                back[xy.length - 2 - i] = xy[at];
                back[xy.length - 1 - i] = xy[at + 1];
            }
            hull(corners, area, on);
            hull(corners, area, back);
        }
    }

    private static void hullOfMany() {
        says("HULL: (points on its edges are no corners), in whatever order they are told");
        hullTurned(3, 4, 1, 0, 0, 0, 2, 0, 1, 2);
        hullTurned(3, 16, 0, 0, 2, 0, 4, 0, 3, 2, 2, 4, 1, 2, 2, 1);
        hullTurned(4, 8, 0, 0, 1, 0, 2, 0, 2, 1, 2, 2, 1, 2, 0, 2, 0, 1);
        hullTurned(4, 8, 0, 1, 1, 0, 3, 2, 2, 3, 1, 1, 2, 2, 1, 2);
        hullTurned(3, 12, -3, -1, 3, -1, 0, 1, 0, 0, 0, -1);
        hullTurned(2, 0, -5, -5, 0, 0, 5, 5, 3, 3, -99, -99);
        says("how many of them are corners of the least bulging outline about all (points on its edges are no corners)");
        hull(3, 4, 0, 0, 2, 0, 0, 2, 1, 1, 1, 0, 0, 1);
        hull(4, 78408, -99, -99, 99, -99, 99, 99, -99, 99);
        hull(4, 78408, -99, -99, 99, -99, 99, 99, -99, 99, 0, 0, 0, 99, 99, 0, -98, -98);
        hull(4, 16, 0, 2, 2, 0, 0, -2, -2, 0);
        hull(8, 14, 1, 0, 2, 0, 3, 1, 3, 2, 2, 3, 1, 3, 0, 2, 0, 1);
        hull(3, 9, 0, 0, 3, 0, 0, 3, 1, 1, 2, 1, 1, 2, 1, 0, 2, 0);
        hull(3, 198, -99, -99, 99, 99, 98, 99, 0, 0);
        hull(4, 396, -99, -99, 99, 99, 98, 99, -98, -99, 0, 0);
    }

    private static void turned() {
        says("TURNED: n (0 .. 99999): behind how many times it first reads alike both ways (0: it does so); what it is then");
        SaltFigures x = new SaltFigures();
        int[][] told = {{0, 0, 0}, {9, 0, 9}, {10, 1, 11}, {11, 0, 11}, {12, 1, 33}, {19, 2, 121}, {59, 3, 1111}, {100, 1, 101},
            {99999, 0, 99999}, {10000, 1, 10001}, {90999, 2, 999999}, {19990, 14, 927787729}, {19298, 10, 996848699},
            {2990, 14, 52788725}, {90619, 9, 883666388}};
        for (int[] t : told) {
            due("turned(" + t[0] + ", 0)", x.turned(t[0], 0), t[1]);
            due("turned(" + t[0] + ", 1)", x.turned(t[0], 1), t[2]);
        }
        says("21: NONE, too, if n can't be, or another what");
        for (int n : new int[] {MIN, -11, -1, 100000, 100001, MAX}) {
            due("turned(" + n + ", 0)", x.turned(n, 0), -1);
            due("turned(" + n + ", 1)", x.turned(n, 1), -1);
        }
        for (int what : new int[] {MIN, -1, 2, MAX}) {
            due("turned(0, " + what + ")", x.turned(0, what), -1);
            due("turned(99999, " + what + ")", x.turned(99999, what), -1);
        }
    }

    private static void turnedTooFar() {
        says("NONE: not within 20 times, or it comes above 999999999 first, alike both ways or not");
        SaltFigures x = new SaltFigures();
        // 89 is alike behind 24 times, 177 behind 15 (8836886388), 10548 behind 30, 196 is not known to be ever
        for (int n : new int[] {89, 98, 177, 187, 286, 10548, 196, 295, 689, 849, 879, 1297, 40089, 10568, 7069, 8039}) {
            due("turned(" + n + ", 0)", x.turned(n, 0), -1);
            due("turned(" + n + ", 1)", x.turned(n, 1), -1);
        }
    }

    private static void weightsTold() {
        says("WEIGHTS: up to 6 told (1 .. 60); 22: (NONE: none is then): how many; NONE if one can't be, or there are six");
        SaltFigures x = new SaltFigures();
        row(x, "weight", x::weight, 1, 60, 6);
        says("23: WEIGHS m (0 .. 360); NONE if m can't be");
        for (int m : new int[] {MIN, -2, 361, 362, MAX}) {
            due("weighs(" + m + ") of none", x.weighs(m), -1);
        }
        says("(none on either is a way for 0)");
        due("weighs(0) of none", x.weighs(0), 1);
        due("weighs(1) of none", x.weighs(1), 0);
        due("weighs(360) of none", x.weighs(360), 0);
        due("weighs(NONE) of none", x.weighs(-1), 0);
    }

    private static void weighings() {
        SaltFigures x = new SaltFigures();
        says("each on the left scale, on the right one or on none: WEIGHS m: in how many ways the left one has just m more");
        x.weight(1);
        int[] one = {1, 1, 0};
        for (int m = 0; m <= 2; m++) {
            due("weighs(" + m + ") of 1", x.weighs(m), one[m]);
        }
        due("weighs(NONE) of 1", x.weighs(-1), 1);
        x.weight(1);
        int[] two = {3, 2, 1, 0};
        for (int m = 0; m <= 3; m++) {
            due("weighs(" + m + ") of 1, 1", x.weighs(m), two[m]);
        }
        due("weighs(NONE) of 1, 1", x.weighs(-1), 2);
        x.weight(-1);
        for (int i = 0; i < 6; i++) {
            x.weight(60);
        }
        int[][] six = {{0, 141}, {1, 0}, {59, 0}, {60, 126}, {61, 0}, {300, 6}, {359, 0}, {360, 1}};
        for (int[] s : six) {
            due("weighs(" + s[0] + ") of six 60", x.weighs(s[0]), s[1]);
        }
        due("weighs(361) of six 60", x.weighs(361), -1);
        due("weighs(-2) of six 60", x.weighs(-2), -1);
        says("how many of 1 .. 360 can be so");
        due("weighs(NONE) of six 60", x.weighs(-1), 6);
        x.weight(-1);
        for (int w : new int[] {60, 59, 58, 57, 56, 55}) {
            x.weight(w);
        }
        due("weighs(345)", x.weighs(345), 1);
        due("weighs(346)", x.weighs(346), 0);
    }

    private static void coinsBounds() {
        says("FALSE of n (1 .. 100) coins, h 1, or h 0; 24: NONE, too, if one can't be (h 0, 1)");
        SaltFigures x = new SaltFigures();
        for (int n : new int[] {MIN, -1, 0, 101, 102, MAX}) {
            due("coins(" + n + ", 0)", x.coins(n, 0), -1);
            due("coins(" + n + ", 1)", x.coins(n, 1), -1);
        }
        for (int h : new int[] {MIN, -1, 2, MAX}) {
            due("coins(1, " + h + ")", x.coins(1, h), -1);
            due("coins(50, " + h + ")", x.coins(50, h), -1);
            due("coins(100, " + h + ")", x.coins(100, h), -1);
        }
        says("(h 0: heavy or light need not be known; n 1: 0; h 0 and n 2: NONE)");
        due("coins(1, 0)", x.coins(1, 0), 0);
        due("coins(1, 1)", x.coins(1, 1), 0);
        due("coins(2, 0)", x.coins(2, 0), -1);
        due("coins(2, 1)", x.coins(2, 1), 1);
        due("coins(100, 0)", x.coins(100, 0), 5);
        due("coins(100, 1)", x.coins(100, 1), 5);
    }

    private static void coinsOneMore() {
        says("the fewest weighings on two scales by which it is always found which coin it is");
        SaltFigures x = new SaltFigures();
        int[] heavy = {1, 3, 9, 27, 81};
        int[] either = {1, 4, 13, 40};
        for (int i = 0; i < heavy.length; i++) {
            due("coins(" + heavy[i] + ", 1)", x.coins(heavy[i], 1), i);
            due("coins(" + (heavy[i] + 1) + ", 1)", x.coins(heavy[i] + 1, 1), i + 1);
        }
        for (int i = 1; i < either.length; i++) {
            due("coins(" + either[i] + ", 0)", x.coins(either[i], 0), i + 1);
            due("coins(" + (either[i] + 1) + ", 0)", x.coins(either[i] + 1, 0), i + 2);
        }
        due("coins(3, 0)", x.coins(3, 0), 2);
    }

    private static void slabs() {
        says("SLABS: a floor of 3 by n (0 .. 40); 25: NONE if n can't be");
        SaltFigures x = new SaltFigures();
        for (int n : new int[] {MIN, -2, -1, 41, 42, MAX}) {
            due("slabs(" + n + ")", x.slabs(n), -1);
        }
        says("in how many ways (modulo 1000000007)");
        long[] ways = new long[21];
        ways[0] = 1;
        for (int i = 1; i <= 20; i++) {
            ways[i] = 4 * ways[i - 1] - (i == 1 ? 1 : ways[i - 2]);
        }
        due("ways of 30, below it", ways[15], 299303201);
        due("ways of 32, above it", ways[16], 1117014753);
        for (int n = 0; n <= 40; n++) {
            due("slabs(" + n + ")", x.slabs(n), n % 2 == 1 ? 0 : ways[n / 2] % 1000000007L);
        }
    }

    private static void rowsTold() {
        says("SHADOW: two told rows of up to 10 (0 .. 9); 26: (v NONE: it is empty then): how many; NONE if one can't be, or there are ten");
        SaltFigures x = new SaltFigures();
        row(x, "row 0, ", v -> x.row(0, v), 0, 9, 10);
        row(x, "row 1, ", v -> x.row(1, v), 0, 9, 10);
        says("26: A number of row 0, 1");
        x.row(0, 5);
        x.row(1, 5);
        for (int which : new int[] {MIN, -1, 2, 3, MAX}) {
            for (int v : new int[] {-1, 0, 9, 10}) {
                Checks.refused(x, "row(" + which + ", " + v + ")", () -> x.row(which, v), -1);
            }
        }
        due("row(0, NONE) empties row 0 alone", x.row(0, -1), 0);
        due("row(1, 5), the second", x.row(1, 5), 2);
    }

    private static void shadow(String first, String second, int whether, int ways) {
        SaltFigures x = new SaltFigures();
        for (char c : first.toCharArray()) {
            x.row(0, c - '0');
        }
        for (char c : second.toCharArray()) {
            x.row(1, c - '0');
        }
        due("shadow(0) of " + first + " " + second, x.shadow(0), whether);
        due("shadow(1) of " + first + " " + second, x.shadow(1), ways);
        for (int what : new int[] {MIN, -1, 2, 3, MAX}) {
            due("shadow(" + what + ") of " + first + " " + second, x.shadow(what), -1);
        }
    }

    private static void shadows() {
        says("whether the second is the first, some or none of it left out; (the second empty: one, all of it). 27: NONE for another what");
        shadow("", "", 1, 1);
        shadow("5", "", 1, 1);
        shadow("0123456789", "", 1, 1);
        shadow("", "5", 0, 0);
        shadow("5", "5", 1, 1);
        shadow("5", "6", 0, 0);
        shadow("5", "55", 0, 0);
        shadow("0123456789", "0123456789", 1, 1);
        shadow("0123456789", "0123456788", 0, 0);
        shadow("0123456789", "9", 1, 1);
        shadow("0123456789", "0", 1, 1);
        shadow("0123456789", "90", 0, 0);
        shadow("9999999999", "9", 1, 10);
        shadow("9999999999", "99999", 1, 252);
        shadow("9999999999", "999999999", 1, 10);
        shadow("9999999999", "9999999999", 1, 1);
        shadow("0000000000", "0", 1, 10);
        shadow("1010101010", "10", 1, 15);
    }

    private static void dripsTold() {
        says("DRIPS: up to 6 told periods (2 .. 30); 28: (NONE: none is then): how many; NONE if one can't be, or there are six");
        SaltFigures x = new SaltFigures();
        row(x, "drip", x::drip, 2, 30, 6);
        Checks.refused(x, "drip(1)", () -> x.drip(1), -1);
        Checks.refused(x, "drip(0)", () -> x.drip(0), -1);
        says("minutes 1 .. n (0 .. 10000) (none told: n); 29: NONE, too, if n can't be");
        for (int n : new int[] {0, 1, 9999, 10000}) {
            due("drips(" + n + ") of none", x.drips(n), n);
        }
        for (int n : new int[] {MIN, -2, 10001, 10002, MAX}) {
            due("drips(" + n + ") of none", x.drips(n), -1);
        }
        says("(NONE: none told)");
        due("drips(NONE) of none", x.drips(-1), -1);
        x.drip(30);
        for (int n : new int[] {MIN, -2, 10001, 10002, MAX}) {
            due("drips(" + n + ") of 30", x.drips(n), -1);
        }
    }

    private static void dripping() {
        says("minutes 1 .. n on which none falls: how many; behind how many minutes (1 at least) all fall at once first");
        SaltFigures x = new SaltFigures();
        x.drip(30);
        int[][] one = {{0, 0}, {1, 1}, {29, 29}, {30, 29}, {31, 30}, {60, 58}, {10000, 10000 - 333}, {-1, 30}};
        for (int[] o : one) {
            due("drips(" + o[0] + ") of 30", x.drips(o[0]), o[1]);
        }
        x.drip(2);
        due("drips(2) of 30, 2", x.drips(2), 1);
        due("drips(30) of 30, 2", x.drips(30), 15);
        due("drips(NONE) of 30, 2", x.drips(-1), 30);
        x.drip(2);
        due("drips(30) of 30, 2, 2", x.drips(30), 15);
        due("drips(NONE) of 30, 2, 2", x.drips(-1), 30);
        x.drip(-1);
        for (int p : new int[] {29, 28, 27, 25, 23, 19}) {
            x.drip(p);
        }
        due("drips(NONE), the most", x.drips(-1), 239519700);
        due("drips(18)", x.drips(18), 18);
        due("drips(19)", x.drips(19), 18);
        x.drip(-1);
        x.drip(2);
        x.drip(3);
        due("drips(10000) of 2, 3", x.drips(10000), 10000 - 5000 - 3333 + 1666);
        due("drips(9999) of 2, 3", x.drips(9999), 9999 - 4999 - 3333 + 1666);
    }

    private static void toldRow(String row, int... numbers) {
        SaltFigures x = new SaltFigures();
        for (char c : row.toCharArray()) {
            x.row(0, c - '0');
        }
        x.row(1, 3);
        due("told(0) of " + row, x.told(0), numbers.length);
        for (int i = 0; i < numbers.length; i++) {
            due("told(" + (100 + i) + ") of " + row, x.told(100 + i), numbers[i]);
        }
        for (int what : new int[] {100 + numbers.length, 101 + numbers.length, 99, 199, 211, 1, -1, MIN, MAX, 98, 150}) {
            due("told(" + what + ") of " + row, x.told(what), -1);
        }
    }

    private static void toldOfRow() {
        says("TOLD: how often, what, .. (as long as it is alike each): how many numbers (empty: 0); the i-th; 30: NONE if there is none such");
        toldRow("");
        toldRow("0", 1, 0);
        toldRow("9", 1, 9);
        toldRow("99", 2, 9);
        toldRow("9999999999", 10, 9);
        toldRow("0000000000", 10, 0);
        toldRow("9999999990", 9, 9, 1, 0);
        toldRow("0999999999", 1, 0, 9, 9);
        toldRow("0123456789", 1, 0, 1, 1, 1, 2, 1, 3, 1, 4, 1, 5, 1, 6, 1, 7, 1, 8, 1, 9);
        toldRow("1211", 1, 1, 1, 2, 2, 1);
    }

    private static void toldAgain() {
        says("of the row 1, told so, what comes told so, k (0 .. 10) times: how many numbers there are then");
        SaltFigures x = new SaltFigures();
        int[] lengths = {1, 2, 2, 4, 6, 6, 8, 10, 14, 20, 26};
        for (int told = 0; told < 2; told++) {
            for (int k = 0; k <= 10; k++) {
                due("told(" + (200 + k) + ")", x.told(200 + k), lengths[k]);
            }
            due("told(199)", x.told(199), -1);
            due("told(211)", x.told(211), -1);
            x.row(0, 7);
            due("told(100), of row 0 still", x.told(100), told + 1);
            due("told(101), of row 0 still", x.told(101), 7);
        }
    }

    private static void switches() {
        says("SWITCHES: v (0 .. 1023): 31: NONE if v can't be (0 .. 1023), or another what");
        SaltFigures x = new SaltFigures();
        for (int v : new int[] {MIN, -1, 1024, 1025, MAX}) {
            due("switches(" + v + ", 0)", x.switches(v, 0), -1);
            due("switches(" + v + ", 1)", x.switches(v, 1), -1);
        }
        for (int what : new int[] {MIN, -1, 2, MAX}) {
            due("switches(0, " + what + ")", x.switches(0, what), -1);
            due("switches(1023, " + what + ")", x.switches(1023, what), -1);
        }
        says("is v and v by 2, each bit lit where these two are unlike; the number 0 .. 1023 whose sight is v");
        int[][] sights = {{0, 0}, {1, 1}, {2, 3}, {3, 2}, {4, 6}, {7, 4}, {511, 256}, {512, 768}, {682, 1023}, {1022, 513}, {1023, 512}};
        for (int[] s : sights) {
            due("switches(" + s[0] + ", 0)", x.switches(s[0], 0), s[1]);
            due("switches(" + s[1] + ", 1)", x.switches(s[1], 1), s[0]);
        }
        boolean[] seen = new boolean[1024];
        for (int v = 0; v < 1024; v++) {
            int sight = x.switches(v, 0);
            due("a sight once only, of " + v, sight >= 0 && sight < 1024 && !seen[sight], true);
            seen[Math.floorMod(sight, 1024)] = true;
            due("switches(" + sight + ", 1)", x.switches(sight, 1), v);
        }
    }

    private static void stagesTold() {
        says("VOYAGE: up to 6 (1 .. 20); 32: (NONE: none is then); NONE if one can't be, or there are six");
        SaltFigures x = new SaltFigures();
        due("stage(NONE) of none", x.stage(-1), 0);
        for (int told = 0; told < 2; told++) {
            for (int v : new int[] {MIN, -2, 0, 21, 22, MAX}) {
                Checks.refused(x, "stage(" + v + ")", () -> x.stage(v), -1);
            }
            due("stage(1)", x.stage(1), told + 1);
            due("stage(20)", x.stage(20), 2);
        }
        says("32: told again, also of six, it counts once: how many unlike ones");
        for (int i = 3; i <= 6; i++) {
            due("stage(" + i + ")", x.stage(i), i);
            for (int again : new int[] {1, 20, 3}) {
                Checks.refused(x, "stage(" + again + ") again", () -> x.stage(again), i);
            }
        }
        for (int v : new int[] {MIN, -2, 0, 2, 7, 19, 21, MAX}) {
            Checks.refused(x, "stage(" + v + ") of six", () -> x.stage(v), -1);
        }
        due("stage(6) again, of six", x.stage(6), 6);
        due("stage(NONE) of six", x.stage(-1), 0);
        due("voyage(1, 0) then", x.voyage(1, 0), 0);
        due("stage(7)", x.stage(7), 1);
    }

    private static void voyages() {
        says("l (1 .. 200) leagues; 33: NONE, too, if one can't be, or another what");
        SaltFigures x = new SaltFigures();
        for (int told = 0; told < 2; told++) {
            for (int l : new int[] {MIN, -1, 0, 201, 202, MAX}) {
                due("voyage(" + l + ", 0)", x.voyage(l, 0), -1);
                due("voyage(" + l + ", 1)", x.voyage(l, 1), -1);
            }
            for (int what : new int[] {MIN, -1, 2, MAX}) {
                due("voyage(1, " + what + ")", x.voyage(1, what), -1);
                due("voyage(200, " + what + ")", x.voyage(200, what), -1);
            }
            x.stage(1);
        }
        due("voyage(1, 0) of 1", x.voyage(1, 0), 1);
        due("voyage(1, 1) of 1", x.voyage(1, 1), 1);
        due("voyage(200, 0) of 1", x.voyage(200, 0), 1);
        due("voyage(200, 1) of 1", x.voyage(200, 1), 200);
        says("how many rows there are; the fewest days (NONE)");
        x.stage(-1);
        due("voyage(1, 0) of none", x.voyage(1, 0), 0);
        due("voyage(200, 1) of none", x.voyage(200, 1), -1);
        x.stage(20);
        int[][] twenty = {{1, 0, -1}, {19, 0, -1}, {20, 1, 1}, {21, 0, -1}, {39, 0, -1}, {40, 1, 2}, {199, 0, -1}, {200, 1, 10}};
        for (int[] t : twenty) {
            due("voyage(" + t[0] + ", 0) of 20", x.voyage(t[0], 0), t[1]);
            due("voyage(" + t[0] + ", 1) of 20", x.voyage(t[0], 1), t[2]);
        }
        x.stage(19);
        int[][] both = {{18, 0, -1}, {19, 1, 1}, {37, 0, -1}, {38, 1, 2}, {39, 2, 2}, {40, 1, 2}, {41, 0, -1}, {58, 3, 3}};
        for (int[] t : both) {
            due("voyage(" + t[0] + ", 0) of 19, 20", x.voyage(t[0], 0), t[1]);
            due("voyage(" + t[0] + ", 1) of 19, 20", x.voyage(t[0], 1), t[2]);
        }
        x.stage(-1);
        x.stage(3);
        x.stage(5);
        x.stage(5);
        due("voyage(8, 0) of 3, 5", x.voyage(8, 0), 2);
        due("voyage(7, 0) of 3, 5", x.voyage(7, 0), 0);
        due("voyage(7, 1) of 3, 5", x.voyage(7, 1), -1);
        due("voyage(9, 1) of 3, 5, not by the longest first", x.voyage(9, 1), 3);
        says("the fewest days, in whatever order the lengths are told");
        int[][] orders = {{1, 2, 3}, {1, 3, 2}, {2, 1, 3}, {2, 3, 1}, {3, 1, 2}, {3, 2, 1}};
        for (int[] order : orders) {
            SaltFigures y = new SaltFigures();
            int[] lengths = {0, 1, 10, 11};
            for (int i : order) {
                y.stage(lengths[i]);
            }
            for (int l = 1; l <= 200; l++) {
                int fewest = l;
                for (int tens = 0; tens * 10 <= l; tens++) {
                    for (int elevens = 0; tens * 10 + elevens * 11 <= l; elevens++) {
                        fewest = Math.min(fewest, l - 9 * tens - 10 * elevens);
                    }
                }
                due("voyage(" + l + ", 1) of 1, 10, 11", y.voyage(l, 1), fewest);
            }
        }
        for (int turn = 0; turn < 2; turn++) {
            SaltFigures y = new SaltFigures();
            y.stage(1 + turn);
            y.stage(2 - turn);
            due("voyage(1, 1) of 1, 2", y.voyage(1, 1), 1);
            due("voyage(2, 1) of 1, 2", y.voyage(2, 1), 1);
            due("voyage(3, 1) of 1, 2", y.voyage(3, 1), 2);
            due("voyage(200, 1) of 1, 2", y.voyage(200, 1), 100);
        }
    }

    private static void voyageModulo() {
        says("how many rows there are (modulo 1000000007)");
        SaltFigures x = new SaltFigures();
        x.stage(1);
        x.stage(2);
        long[] rows = new long[201];
        rows[0] = 1;
        rows[1] = 1;
        for (int l = 2; l <= 200; l++) {
            rows[l] = (rows[l - 1] + rows[l - 2]) % 1000000007L;
        }
        due("voyage(43, 0), below it", x.voyage(43, 0), 701408733);
        due("voyage(44, 0), above it", x.voyage(44, 0), 1134903170 - 1000000007);
        for (int l = 1; l <= 200; l++) {
            due("voyage(" + l + ", 0)", x.voyage(l, 0), rows[l]);
        }
        for (int v = 3; v <= 6; v++) {
            x.stage(v);
        }
        // each is the sum of the six ahead of it
        due("voyage(30, 0) of 1 .. 6", x.voyage(30, 0), 437513522);
        due("voyage(31, 0) of 1 .. 6", x.voyage(31, 0), 867844316);
        due("voyage(32, 0) of 1 .. 6", x.voyage(32, 0), 1721441096 - 1000000007);
    }

    private static void postsTold() {
        says("posts told, up to 8 (place 1 .. 99, height 1 .. 60); 34: (place NONE: none is then): how many; NONE if one can't be, or there are eight");
        SaltFigures x = new SaltFigures();
        row(x, "post at a place, height 1, ", v -> x.post(v, 1), 1, 99, 8);
        int[][] beyond = {{0, 1}, {100, 1}, {1, 0}, {1, 61}, {99, 0}, {99, 61}, {MIN, 1}, {MAX, 1}, {1, MIN}, {1, MAX}, {1, -1}, {-2, 1}, {0, 0}, {100, 61}};
        for (int told = 0; told < 9; told++) {
            for (int[] p : beyond) {
                Checks.refused(x, "post(" + p[0] + ", " + p[1] + ") behind " + told, () -> x.post(p[0], p[1]), -1);
            }
            if (told < 8) {
                due("post", x.post(told % 2 == 0 ? 1 : 99, told % 4 < 2 ? 1 : 60), told + 1);
            }
        }
        Checks.refused(x, "post(5, 5), the ninth", () -> x.post(5, 5), -1);
        for (int height : new int[] {MIN, -1, 0, 61, MAX, 5}) {
            due("post(NONE, " + height + ")", x.post(-1, height), 0);
            due("light(5, 0, 2) then", x.light(5, 0, 2), 0);
            x.post(3, 3);
        }
    }

    private static void rays() {
        says("LIGHT at height h (1 .. 60): where its ray comes to the ground, as a fraction in lowest terms (h not above its height: 1 by 0, never)");
        SaltFigures x = new SaltFigures();
        x.post(99, 59);
        x.post(1, 1);
        x.post(98, 18);
        x.post(7, 60);
        int[][] told = {{60, 0, 5940, 1}, {59, 0, 1, 0}, {58, 0, 1, 0}, {1, 0, 1, 0}, {1, 1, 1, 0}, {2, 1, 2, 1}, {3, 1, 3, 2}, {60, 1, 60, 59},
            {60, 2, 140, 1}, {19, 2, 1862, 1}, {20, 2, 980, 1}, {18, 2, 1, 0}, {60, 3, 1, 0}, {50, 2, 1225, 8}};
        for (int[] t : told) {
            due("light(" + t[0] + ", " + t[1] + ", 0)", x.light(t[0], t[1], 0), t[2]);
            due("light(" + t[0] + ", " + t[1] + ", 1)", x.light(t[0], t[1], 1), t[3]);
        }
        says("35: NONE - 1 if one can't be, or another what");
        for (int h : new int[] {MIN, -1, 0, 61, 62, MAX}) {
            for (int what = 0; what < 3; what++) {
                due("light(" + h + ", 0, " + what + ")", x.light(h, 0, what), -2);
            }
        }
        for (int i : new int[] {MIN, -1, 4, 5, 8, MAX}) {
            due("light(1, " + i + ", 0)", x.light(1, i, 0), -2);
            due("light(60, " + i + ", 1)", x.light(60, i, 1), -2);
            says("35: what 2 how many in no shadow (i not asked)");
            due("light(60, " + i + ", 2)", x.light(60, i, 2), x.light(60, 0, 2));
            due("light(1, " + i + ", 2)", x.light(1, i, 2), x.light(1, 0, 2));
        }
        for (int what : new int[] {MIN, -1, 3, 4, MAX}) {
            due("light(1, 0, " + what + ")", x.light(1, 0, what), -2);
            due("light(60, 3, " + what + ")", x.light(60, 3, what), -2);
        }
        x.post(-1, 0);
        due("light(1, 0, 0) of none", x.light(1, 0, 0), -2);
        due("light(1, 0, 1) of none", x.light(1, 0, 1), -2);
        due("light(1, 0, 2) of none", x.light(1, 0, 2), 0);
    }

    private static int lit(int h, int... posts) {
        SaltFigures x = new SaltFigures();
        for (int i = 0; i < posts.length; i += 2) {
            x.post(posts[i], posts[i + 1]);
        }
        return x.light(h, 0, 2);
    }

    private static void litOrNot() {
        says("how many posts have a top that is lit: of each post nearer to 0 (or as near, told ahead of it) the ray lies below it where it stands");
        due("one", lit(1, 99, 60), 1);
        due("one, lower than h", lit(60, 1, 1), 1);
        due("as near, as high: the first alone", lit(10, 5, 3, 5, 3), 1);
        due("as near, the second 1 higher", lit(10, 5, 3, 5, 4), 2);
        due("as near, the second 1 lower", lit(10, 5, 4, 5, 3), 1);
        due("eight as near, each 1 higher", lit(60, 99, 1, 99, 2, 99, 3, 99, 4, 99, 5, 99, 6, 99, 7, 99, 8), 8);
        due("eight as near, each 1 lower", lit(60, 99, 8, 99, 7, 99, 6, 99, 5, 99, 4, 99, 3, 99, 2, 99, 1), 1);
        due("the farther told ahead", lit(10, 20, 1, 10, 1), 2);
        due("the farther told ahead, shaded", lit(10, 20, 1, 10, 6), 1);
        due("shaded by the first of two", lit(10, 10, 6, 15, 5, 20, 2), 2);
        due("the lowest light, all above it", lit(1, 1, 1, 2, 1, 3, 1), 1);
        due("the lowest light, each higher", lit(1, 1, 1, 2, 2, 3, 3), 3);
    }

    private static void strictly() {
        says("(that ray's height there: h less place times (h less the nearer one's height) by the nearer one's place; below it strictly)");
        due("the ray at 4, a top at 4", lit(10, 10, 5, 12, 4), 1);
        due("the ray at 4, a top at 5", lit(10, 10, 5, 12, 5), 2);
        due("the ray at 4, a top at 3", lit(10, 10, 5, 12, 3), 1);
        due("the ray at 3 1/2, a top at 4", lit(10, 10, 5, 13, 4), 2);
        due("the ray at 3 1/2, a top at 3", lit(10, 10, 5, 13, 3), 1);
        due("the ray at the ground, a top at 1", lit(10, 10, 5, 20, 1), 2);
        due("the ray at 1, a top at 1", lit(10, 10, 5, 18, 1), 1);
        due("the ray goes up: at 7, a top at 7", lit(5, 10, 6, 20, 7), 1);
        due("the ray goes up: at 7, a top at 8", lit(5, 10, 6, 20, 8), 2);
        due("the ray goes up: at 6 1/2, a top at 6", lit(5, 10, 6, 15, 6), 1);
        due("the ray goes up: at 6 1/2, a top at 7", lit(5, 10, 6, 15, 7), 2);
        due("the ray lies level: at 5, a top at 5", lit(5, 10, 5, 99, 5), 1);
        due("the ray lies level: at 5, a top at 6", lit(5, 10, 5, 99, 6), 2);
        due("the steepest one up", lit(1, 1, 60, 99, 60), 1);
        due("the steepest one down", lit(60, 1, 1, 99, 1), 2);
    }

    private static void heapsTold() {
        says("HEAP: grains on up to 8 told places (0 .. 99); 36: (NONE: none is then): how many; NONE if one can't be, or there are eight");
        SaltFigures x = new SaltFigures();
        row(x, "heap", x::heap, 0, 99, 8);
        due("heaped(0) of none", x.heaped(0), 0);
        says("37: 1 + i what lies at i (from 0). NONE if there is none such");
        for (int told = 0; told <= 8; told++) {
            for (int what : new int[] {MIN, -1, told + 1, told + 2, 9, 100, MAX}) {
                due("heaped(" + what + ") of " + told, x.heaped(what), -1);
            }
            for (int i = 0; i < told; i++) {
                due("heaped(" + (1 + i) + ") of " + told, x.heaped(1 + i), 0);
            }
            x.heap(0);
        }
    }

    private static void heaped(int[] told, int falls, int... then) {
        SaltFigures x = new SaltFigures();
        StringBuilder s = new StringBuilder();
        for (int v : told) {
            x.heap(v);
            s.append(' ').append(v);
        }
        for (int times = 0; times < 2; times++) {
            due("heaped(0) of" + s, x.heaped(0), falls);
            for (int i = 0; i < then.length; i++) {
                due("heaped(" + (1 + i) + ") of" + s, x.heaped(1 + i), then[i]);
            }
        }
    }

    private static void falling() {
        says("the greatest place that has 3 more at least than the place one less (ahead of place 0: always 0) lets one grain fall there (ahead of 0: lost)");
        heaped(new int[] {0}, 0, 0);
        heaped(new int[] {2}, 0, 2);
        heaped(new int[] {3}, 1, 2);
        heaped(new int[] {4}, 2, 2);
        heaped(new int[] {99}, 97, 2);
        heaped(new int[] {0, 2}, 0, 0, 2);
        heaped(new int[] {0, 3}, 1, 1, 2);
        heaped(new int[] {2, 4}, 0, 2, 4);
        heaped(new int[] {2, 5}, 2, 2, 4);
        heaped(new int[] {99, 0}, 97, 2, 0);
        heaped(new int[] {99, 99}, 97 + 2 * 95, 2, 4);
        heaped(new int[] {3, 0, 4}, 2, 2, 1, 3);
        heaped(new int[] {0, 0, 0, 0, 0, 0, 0, 3}, 1, 0, 0, 0, 0, 0, 0, 1, 2);
        heaped(new int[] {2, 4, 6, 8, 10, 12, 14, 16}, 0, 2, 4, 6, 8, 10, 12, 14, 16);
        heaped(new int[] {2, 4, 6, 8, 10, 12, 14, 17}, 8, 2, 4, 6, 8, 10, 12, 14, 16);
        heaped(new int[] {3, 4, 6, 8, 10, 12, 14, 16}, 1, 2, 4, 6, 8, 10, 12, 14, 16);
    }

    private static void lyingThen() {
        says("again and again till there is none such: how many falls; what lies at i then");
        int[] most = {99, 99, 99, 99, 99, 99, 99, 99};
        int falls = 0;
        for (int i = 0; i < 8; i++) {
            falls += (i + 1) * (99 - 2 * (i + 1));
        }
        heaped(most, falls, 2, 4, 6, 8, 10, 12, 14, 16);
        heaped(new int[] {0, 0, 0, 0, 0, 0, 0, 99}, 384, 2, 4, 6, 8, 10, 12, 14, 16);
        heaped(new int[] {0, 0, 0, 0, 0, 0, 0, 0}, 0, 0, 0, 0, 0, 0, 0, 0, 0);
    }

    private static long thought(SaltFigures x, int which) {
        return switch (which) {
            case 0 -> x.weighs(-1);
            case 1 -> x.weighs(7);
            case 2 -> x.shadow(0);
            case 3 -> x.shadow(1);
            case 4 -> x.told(0);
            case 5 -> x.told(103);
            case 6 -> x.told(210);
            case 7 -> x.voyage(200, 0);
            case 8 -> x.voyage(200, 1);
            case 9 -> x.voyage(7, 0);
            case 10 -> x.voyage(1, 1);
            case 11 -> x.heaped(0);
            case 12 -> x.heaped(3);
            case 13 -> x.drips(-1);
            case 14 -> x.drips(10000);
            case 15 -> x.hull(0);
            case 16 -> x.hull(1);
            case 17 -> x.light(60, 0, 2);
            case 18 -> x.light(60, 1, 0);
            case 19 -> x.told(120);
            default -> x.heaped(4);
        };
    }

    private static void inAnyOrder() {
        says("IN THOUGHT (nothing of it stays): each answers the same, whatever was thought ahead of it");
        int thoughts = 21;
        for (int told = 0; told < 2; told++) {
            SaltFigures x = new SaltFigures();
            for (int i = 0; i < 3 * told; i++) {
                x.weight(3 + 4 * i);
                x.row(0, 5 + i / 2);
                x.row(1, 6);
                x.drip(4 + i);
                x.stage(2 + 3 * i);
                x.post(4 + i, 9 - i);
                x.heap(40 + 20 * i);
                x.point(i * i, i);
            }
            long[] alone = new long[thoughts];
            for (int i = 0; i < thoughts; i++) {
                alone[i] = thought(x, i);
            }
            for (int ahead = 0; ahead < thoughts; ahead++) {
                for (int i = 0; i < thoughts; i++) {
                    thought(x, ahead);
                    due("the " + i + "-th behind the " + ahead + "-th", thought(x, i), alone[i]);
                }
            }
        }
    }

    private static void games() {
        says("GAME on n (1 .. 300): who can't (of 1) loses; 38: NONE, too, if n can't be, or another what");
        SaltFigures x = new SaltFigures();
        for (int n : new int[] {MIN, -2, -1, 0, 301, 302, MAX}) {
            for (int what = 0; what < 3; what++) {
                due("game(" + n + ", " + what + ")", x.game(n, what), -1);
            }
        }
        for (int what : new int[] {MIN, -1, 3, 4, MAX}) {
            due("game(1, " + what + ")", x.game(1, what), -1);
            due("game(300, " + what + ")", x.game(300, what), -1);
        }
        says("1, if who begins wins, else 0; the least that wins (NONE); of how many of 1 .. n who begins wins");
        int[][] told = {{1, 0, -1, 0}, {2, 1, 1, 1}, {3, 0, -1, 1}, {4, 1, 1, 2}, {9, 0, -1, 4}, {299, 0, -1, 149}, {300, 1, 1, 150}};
        for (int[] t : told) {
            for (int what = 0; what < 3; what++) {
                due("game(" + t[0] + ", " + what + ")", x.game(t[0], what), t[1 + what]);
            }
        }
    }
}
