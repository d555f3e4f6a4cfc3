/** Promises 1 to 6, 11, 12 and 41: who there is, what is done by hand, how days go, the book. */
public final class PortTest {
    public static void main(String[] args) {
        newObject();
        stateIsTold();
        persons();
        setting();
        acting();
        dying();
        daysGo();
        spillsOfNothingDrawNothing();
        weatherOfADay();
        cattle();
        runningOff();
        lastDay();
        bookIsFull();
        looking();
        Checks.finish();
    }

    private static void due(String call, long got, long want) {
        Checks.due(call, got, want);
    }

    private static void newObject() {
        SaltFigures x = new SaltFigures();
        for (int what = 0; what <= 13; what++) {
            due("1: look(" + what + ")", x.look(what), what == 6 ? -1 : 0);
        }
        for (int s = 0; s < 16; s++) {
            due("1: look(20 + " + s + ")", x.look(20 + s), SaltFigures.NONE);
        }
        due("1: fault(0)", x.fault(0), 0);
        due("1: fault(1)", x.fault(1), -1);
        Checks.due("1: undo()", x.undo(), false);
    }

    private static void stateIsTold() {
        SaltFigures x = new SaltFigures();
        due("2: state(7)", x.state(7), 0);
        due("2: state(MIN)", x.state(Integer.MIN_VALUE), 7);
        due("2: look(8)", x.look(8), Integer.MIN_VALUE);
        due("2: state(-1)", x.state(-1), Integer.MIN_VALUE);
    }

    private static void persons() {
        SaltFigures x = new SaltFigures();
        due("3: person(-1)", x.person(-1), -1);
        due("3: person(10)", x.person(10), -1);
        for (int i = 0; i < 16; i++) {
            due("3: person", x.person(i % 10), i);
            int[] first = {i % 10, 0, 0, 0, 0, 1, -1, 500, 10 * (i % 10), 0, -1};
            for (int what = 0; what < first.length; what++) {
                due("11: of(" + i + ", " + what + ")", x.of(i, what), first[what]);
            }
        }
        due("3: the 17th", x.person(5), -1);
        due("41: look(0)", x.look(0), 16);
        due("41: look(1)", x.look(1), 65535);
        due("11: of(16, 0)", x.of(16, 0), -2);
        due("11: of(-1, 0)", x.of(-1, 0), -2);
        due("11: of(0, 11)", x.of(0, 11), -2);
        due("11: of(0, -1)", x.of(0, -1), -2);
    }

    private static void setting() {
        SaltFigures x = Checks.withPersons(3, 4);
        Checks.due("4: belief", x.set(0, 1, 9), true);
        due("4: belief", x.of(1, 0), 9);
        Checks.due("4: belief 10", x.set(0, 1, 10), false);
        Checks.due("4: belief -1", x.set(0, 1, -1), false);
        Checks.due("4: salt", x.set(1, 0, 9999), true);
        due("4: salt", x.of(0, 1), 9999);
        Checks.due("4: salt 10000", x.set(1, 0, 10000), false);
        Checks.due("4: salt -1", x.set(1, 0, -1), false);
        Checks.due("4: nobody", x.set(1, 2, 5), false);
        Checks.due("4: wet, nobody asked", x.set(2, 99, 9), true);
        due("4: wet", x.look(2), 9);
        Checks.due("4: wet 10", x.set(2, 0, 10), false);
        Checks.due("4: what 3", x.set(3, 0, 1), false);
        Checks.due("4: what -1", x.set(-1, 0, 1), false);
        due("11: runs is wet times salt by 100", x.of(0, 9), 9 * 99);
        x.act(4, 1, 0);
        Checks.due("4: belief of one not alive", x.set(0, 1, 1), false);
        Checks.due("4: salt of one not alive", x.set(1, 1, 1), false);
    }

    private static void acting() {
        SaltFigures x = Checks.withPersons(9, 0);
        x.set(1, 0, 9950);
        Checks.due("5: spill", x.act(0, 0, 77), true);
        due("5: salt at most", x.of(0, 1), 9999);
        due("5: the rest is swept", x.look(4), 41);
        due("5: spilt", x.of(0, 2), 1);
        due("5: thrown", x.of(0, 3), 90);
        due("12: thrown whole", x.book(0, 3), 90);
        due("5: no draw", x.look(8), 0);
        Checks.due("5: sit on 16", x.act(1, 0, 16), false);
        Checks.due("5: sit on -1", x.act(1, 0, -1), false);
        Checks.due("5: sit", x.act(1, 0, 15), true);
        due("41: who sits", x.look(35), 0);
        due("11: seat", x.of(0, 6), 15);
        Checks.due("5: sits already", x.act(1, 0, 14), false);
        Checks.due("5: not free", x.act(1, 1, 15), false);
        Checks.due("5: rise without a seat", x.act(2, 1, 0), false);
        Checks.due("5: rise", x.act(2, 0, 0), true);
        due("5: risen", x.look(35), -1);
        Checks.due("5: sweep nothing", x.act(3, 1, 0), false);
        Checks.due("5: sweep", x.act(3, 0, 0), true);
        due("5: swept", x.look(4), 41 + 9999);
        due("12: what", x.book(1, 1), 4);
        due("12: how much", x.book(1, 3), 9999);
        due("12: lines", x.look(7), 2);
        Checks.due("5: what 5", x.act(5, 0, 0), false);
        Checks.due("5: what -1", x.act(-1, 0, 0), false);
        Checks.due("5: nobody", x.act(0, 2, 0), false);
        Checks.due("5: a sceptic throws nothing", x.act(0, 1, 0), true);
        due("12: nothing thrown stands, too", x.book(2, 3), 0);
        due("12: no such line", x.book(3, 0), -1);
        due("12: line -1", x.book(-1, 0), -1);
        due("12: column 4", x.book(0, 4), -1);
        due("12: column -1", x.book(0, -1), -1);
    }

    private static void dying() {
        SaltFigures x = Checks.withPersons(1, 1, 1);
        Checks.tell(x, 3, "person 0 heir 1;person 1 heir 2;", 2);
        x.act(1, 0, 4);
        x.set(1, 0, 100);
        x.set(1, 1, 9950);
        Checks.due("5: die", x.act(4, 0, 0), true);
        int[] dead = {1, 0, 0, 0, 0, 0, -1, 500, 10, 0, 1};
        for (int what = 0; what < dead.length; what++) {
            due("11: of one not alive " + what, x.of(0, what), dead[what]);
        }
        due("5: inherited at most", x.of(1, 1), 9999);
        due("5: the rest is swept", x.look(4), 51);
        due("41: seat free", x.look(24), -1);
        due("41: alive", x.look(1), 6);
        due("12: died", x.book(0, 1), 5);
        due("12: had", x.book(0, 3), 100);
        due("12: inherited", x.book(1, 1), 3);
        due("12: by the heir", x.book(1, 2), 1);
        due("12: so much more", x.book(1, 3), 49);
        Checks.due("5: dead already", x.act(4, 0, 0), false);
        x.act(4, 2, 0);
        due("12: without an heir one line", x.look(7), 3);
        x.act(4, 1, 0);
        due("12: the heir is dead", x.look(7), 4);
        due("5: all swept", x.look(4), 51 + 9999);
        due("41: tallest", x.look(6), -1);
        SaltFigures y = Checks.withPersons(1, 1);
        Checks.tell(y, 3, "person 0 heir 1;", 1);
        y.act(4, 0, 0);
        due("12: 0 inherited stands, too", y.look(7), 2);
        due("12: 0", y.book(1, 3), 0);
    }

    private static void daysGo() {
        SaltFigures x = Checks.withPersons(5, 9);
        due("6: days(0)", x.days(0), -1);
        due("6: days(-5)", x.days(-5), -1);
        due("6: days(61)", x.days(61), -1);
        due("6: nothing done", x.look(5), 0);
        // state 0: 1013904223, whose highest 24 bits are 3960563, so 563; then 1196435762: 4673577, so 577
        due("6: days(1)", x.days(1), 0);
        due("6: state", x.look(8), 1196435762);
        due("41: day", x.look(5), 1);
        Checks.tell(x, 0, "spills 564 when belief=5;spills 577;", 2);
        x.state(0);
        due("6: below spills", x.days(1), 1);
        due("6: who", x.of(0, 2), 1);
        due("6: not who", x.of(1, 2), 0);
        due("12: day", x.book(0, 0), 1);
        due("12: who", x.book(0, 2), 0);
    }

    private static void spillsOfNothingDrawNothing() {
        SaltFigures x = Checks.withPersons(5);
        Checks.tell(x, 0, "spills 0;", 1);
        due("6: none spills", x.days(60), 0);
        due("6: no draw", x.look(8), 0);
        Checks.tell(x, 0, "spills 1000;", 1);
        due("6: each day", x.days(60), 60);
        due("6: day", x.look(5), 120);
        due("6: salt", x.of(0, 1), 3000);
        Checks.tell(x, 0, "throws spilt*3+thrown/1000;", 1);
        x.act(0, 0, 0);
        due("6: spilt one more first, then thrown", x.of(0, 3), 3000 + 61 * 3 + 3);
    }

    private static void weatherOfADay() {
        SaltFigures x = Checks.withPersons(2, 3, 4);
        Checks.tell(x, 0, "spills 0;", 1);
        Checks.tell(x, 1, "seat 0 person 0;seat 9 person 2;", 2);
        Checks.tell(x, 2, "on 1 wet 7;on 0 feast;on 0 scold 2 9;on 0 feast;on 0 die 0;on 0 feast;on 0 scold 0 8;", 7);
        due("6: spilt at feasts", x.days(1), 5);
        due("6: thrown by belief then", x.of(2, 3), 40 + 90 + 90);
        due("6: of the dead", x.of(0, 3), 40);
        due("6: the dead are scolded", x.of(0, 0), 8);
        due("6: who has no seat is at no feast", x.of(1, 2), 0);
        due("6: swept of the dead", x.look(4), 40);
        due("41: wet not yet", x.look(2), 0);
        x.days(1);
        due("41: wet", x.look(2), 7);
        due("6: runs of 220 in wet 7", x.of(2, 1), 220 - 14);
    }

    private static void cattle() {
        SaltFigures x = Checks.withPersons(0, 0, 0);
        Checks.tell(x, 0, "spills 0;", 1);
        x.set(1, 0, 3);
        x.set(1, 1, 5);
        x.set(1, 2, 5);
        Checks.tell(x, 2, "on 0 cattle 6;on 0 cattle 1;on 1 cattle 999;", 3);
        x.days(1);
        // 5 5 above 3: four grains bring all to 3, then 0 and 1; then 2
        due("6: licked of 0", x.of(0, 4), 1);
        due("6: licked of 1", x.of(1, 4), 3);
        due("6: licked of 2", x.of(2, 4), 3);
        int[][] book = {{0, 2, 0, 1}, {0, 2, 1, 3}, {0, 2, 2, 2}, {0, 2, 2, 1}};
        for (int i = 0; i < book.length; i++) {
            for (int k = 0; k < 4; k++) {
                due("12: book(" + i + ", " + k + ")", x.book(i, k), book[i][k]);
            }
        }
        x.days(1);
        due("6: till nobody has any", x.of(0, 1) + x.of(1, 1) + x.of(2, 1), 0);
        due("6: licked", x.of(0, 4) + x.of(1, 4) + x.of(2, 4), 13);
        due("12: lines", x.look(7), 7);
    }

    private static void runningOff() {
        SaltFigures x = Checks.withPersons(0, 0, 0, 0);
        Checks.tell(x, 0, "spills 0;runs salt-1 when seat=3;runs 5;", 3);
        Checks.tell(x, 1, "seat 3 person 2;seat 4 person 0;seat 6 person 1;", 3);
        x.set(1, 2, 10);
        x.set(1, 1, 3);
        x.set(1, 3, 50);
        x.days(1);
        // 9 run of seat 3: 4 to seat 4, 5 off; there 4 of 4 run: all off (2 + 2); of seat 6 all 3; without a seat none
        due("6: seat 3", x.of(2, 1), 1);
        due("6: seat 4", x.of(0, 1), 0);
        due("6: seat 6", x.of(1, 1), 0);
        due("6: no seat", x.of(3, 1), 50);
        due("41: run", x.look(3), 5 + 4 + 3);
        int[][] book = {{0, 1, 2, 9}, {0, 1, 0, 4}, {0, 1, 1, 3}};
        for (int i = 0; i < book.length; i++) {
            for (int k = 0; k < 4; k++) {
                due("12: book(" + i + ", " + k + ")", x.book(i, k), book[i][k]);
            }
        }
        due("12: lines", x.look(7), 3);
        Checks.tell(x, 0, "spills 0;runs 201 when seat=3;runs 0;", 3);
        x.set(1, 2, 9999);
        x.set(1, 0, 9950);
        x.days(1);
        due("6: beside at most", x.of(0, 1), 9999);
        due("41: the rest is swept", x.look(4), 51);
        due("41: run", x.look(3), 12 + 101);
        due("12: runs of 0 is not told", x.look(7), 4);
        SaltFigures y = Checks.withPersons(0, 0);
        Checks.tell(y, 0, "spills 0;runs 2;", 2);
        y.act(1, 0, 15);
        y.act(1, 1, 0);
        y.set(1, 0, 10);
        y.days(1);
        due("6: no seat beside 15", y.of(1, 1), 0);
        due("6: run", y.look(3), 2);
    }

    private static void lastDay() {
        SaltFigures x = new SaltFigures();
        for (int i = 0; i < 166; i++) {
            x.days(60);
        }
        due("41: day", x.look(5), 9960);
        due("6: above 9999", x.days(40), -1);
        due("6: nothing done", x.look(5), 9960);
        due("6: to 9999", x.days(39), 0);
        due("6: no more", x.days(1), -1);
        due("13: beyond in thought", x.goes(60, 0), 0);
        due("41: day", x.look(5), 9999);
    }

    private static void bookIsFull() {
        SaltFigures x = Checks.withPersons(1);
        Checks.tell(x, 0, "spills 1000;throws 1;", 2);
        x.days(60);
        x.days(60);
        x.days(29);
        due("12: lines", x.look(7), 149);
        x.act(4, 0, 0);
        x.person(3);
        x.act(0, 1, 0);
        due("12: no more than 150", x.look(7), 150);
        due("12: the last", x.book(149, 1), 5);
        due("12: none behind", x.book(150, 0), -1);
    }

    private static void looking() {
        SaltFigures x = Checks.withPersons(1, 1, 1);
        x.set(1, 1, 7);
        x.set(1, 2, 7);
        due("41: tallest, the least", x.look(6), 1);
        Checks.tell(x, 0, "runs 1;", 1);
        Checks.tell(x, 1, "seat 0 person 0;seat 1 person 1;", 2);
        Checks.tell(x, 2, "on 1 feast;on 2 feast;on 3 feast;", 3);
        Checks.tell(x, 3, "person 0 heir 1;person 0 heir 1;person 0 heir 1;person 0 heir 2;", 4);
        for (int k = 0; k < 4; k++) {
            due("41: lines", x.look(9 + k), k + 1);
        }
        for (int what : new int[] {-1, 14, 19, 36, 100, Integer.MIN_VALUE, Integer.MAX_VALUE}) {
            due("41: look(" + what + ")", x.look(what), -100000);
        }
    }
}
