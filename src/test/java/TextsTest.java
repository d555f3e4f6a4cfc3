/** Promises 7 to 10, and what THE LAW, TABLE, WEATHER and HEIRS tell. */
public final class TextsTest {
    public static void main(String[] args) {
        tape();
        bytes();
        noSuchText();
        tokens();
        lawGrammar();
        lawValues();
        lawHolds();
        lawOrder();
        open();
        table();
        weather();
        heirs();
        seventeenth();
        aFaultChangesNothing();
        Checks.finish();
    }

    private static void due(String call, long got, long want) {
        Checks.due(call, got, want);
    }

    private static void tape() {
        SaltFigures x = new SaltFigures();
        for (int i = 1; i <= 20; i++) {
            due("7: feed", x.feed(0, 0, 0, 0, 0), 20 * i);
        }
        due("7: more than 400", x.feed(0, 0, 0, 0, 0), -1);
        Checks.due("8: end(401)", x.end(401), false);
        Checks.due("8: end(-1)", x.end(-1), false);
        Checks.due("8: end(400)", x.end(400), true);
        Checks.due("8: end(381)", x.end(381), true);
        due("7: 401", x.feed(0, 0, 0, 0, 0), -1);
        Checks.due("8: changed nothing", x.end(382), false);
        Checks.due("8: end(380)", x.end(380), true);
        due("7: 400", x.feed(0, 0, 0, 0, 0), 400);
        Checks.due("8: end(0)", x.end(0), true);
        Checks.due("8: end(1)", x.end(1), false);
        due("7: from nothing", x.feed(0, 0, 0, 0, 0), 20);
    }

    private static void bytes() {
        SaltFigures x = Checks.withPersons(1);
        // "runs 1;\n" and blanks; of each number the highest byte first
        due("7: feed", x.feed(0x72756e73, 0x20313b0a, 0x20202020, 0x0a0a0a0a, 0x20202020), 20);
        due("9: one line", x.text(0), 1);
        // a byte of 255 can't stand anywhere
        due("7: feed", x.feed(0x20202020, 0x202020ff, 0, 0, 0), 20);
        due("9: text", x.text(0), -1);
        due("10: fault", x.fault(0), 1);
        due("10: place", x.fault(1), 7);
    }

    private static void noSuchText() {
        SaltFigures x = new SaltFigures();
        for (int k : new int[] {-1, 4, Integer.MIN_VALUE, Integer.MAX_VALUE}) {
            Checks.put(x, "spills;");
            due("9: text(" + k + ")", x.text(k), -1);
            due("10: fault(0)", x.fault(0), 0);
            due("10: fault(1)", x.fault(1), -1);
            Checks.due("9: the TAPE is empty", x.end(1), false);
        }
        due("10: fault(2)", x.fault(2), -1);
        due("10: fault(-1)", x.fault(-1), -1);
        Checks.refuse(x, 0, "spills;", 1, 6);
        due("9: empty", x.text(0), 0);
        due("10: of the latest", x.fault(0), 0);
        due("10: of the latest", x.fault(1), -1);
    }

    private static void tokens() {
        SaltFigures x = Checks.withPersons(1);
        Checks.tell(x, 0, "   \n ", 0);
        Checks.tell(x, 0, "spills500when belief=1;", 1);
        Checks.tell(x, 0, "\n runs\n1\n+ 2*0003;\n", 1);
        due("9: 4 digits", x.of(0, 9), 0);
        Checks.refuse(x, 0, "Spills 1;", 1, 0);
        Checks.refuse(x, 0, "spillsx 1;", 1, 0);
        Checks.refuse(x, 0, "spill 1;", 1, 0);
        Checks.refuse(x, 0, "spills 00001;", 1, 7);
        Checks.refuse(x, 0, "spills\t1;", 1, 6);
        Checks.refuse(x, 0, "spills 1 \r;", 1, 9);
        Checks.refuse(x, 0, "spills 1.5;", 1, 8);
        Checks.refuse(x, 0, "spills 1 ", 1, 9);
        Checks.refuse(x, 0, "spills 1;;", 1, 9);
        Checks.refuse(x, 0, "person 0 heir 1;", 1, 0);
    }

    private static void lawGrammar() {
        SaltFigures x = Checks.withPersons(1);
        Checks.refuse(x, 0, "spills -1;", 1, 7);
        Checks.refuse(x, 0, "spills (1);", 1, 7);
        Checks.refuse(x, 0, "spills 1+;", 1, 9);
        Checks.refuse(x, 0, "spills 1 2;", 1, 9);
        Checks.refuse(x, 0, "spills 1/salt;", 1, 9);
        Checks.refuse(x, 0, "spills 1/0;", 2, 9);
        Checks.refuse(x, 0, "spills 1/000 when (", 2, 9);
        Checks.refuse(x, 0, "spills 1/00000;", 1, 9);
        Checks.refuse(x, 0, "spills 1 when;", 1, 13);
        Checks.refuse(x, 0, "spills 1 when 1;", 1, 15);
        Checks.refuse(x, 0, "spills 1 when 1<2<3;", 1, 17);
        Checks.refuse(x, 0, "spills 1 when (1<2)<3;", 1, 19);
        Checks.refuse(x, 0, "spills 1 when (1<2;", 1, 18);
        Checks.refuse(x, 0, "spills 1 when 1<2);", 1, 17);
        Checks.refuse(x, 0, "spills 1 when not;", 1, 17);
        Checks.refuse(x, 0, "spills 1 when 1<2 and;", 1, 21);
        Checks.refuse(x, 0, "spills 1 when 1<2 or or;", 1, 21);
        Checks.refuse(x, 0, "spills 1 when 1<2 when 1<2;", 1, 18);
        Checks.refuse(x, 0, "spills 1 when 1<2 not 1<2;", 1, 18);
        Checks.refuse(x, 0, "spills when 1<2;", 1, 7);
        Checks.refuse(x, 0, "spills person;", 1, 7);
    }

    private static int throwsOf(String sum) {
        SaltFigures x = Checks.withPersons(7, 2, 3);
        Checks.tell(x, 3, "person 1 heir 0;person 2 heir 0;person 1 heir 2;", 3);
        x.set(1, 0, 1234);
        x.set(1, 1, 56);
        x.set(2, 0, 4);
        x.act(1, 0, 5);
        x.act(1, 1, 6);
        x.act(0, 2, 0);
        x.act(0, 2, 0);
        Checks.tell(x, 0, "spills 0;", 1);
        x.days(3);
        Checks.tell(x, 0, "throws " + sum + ";", 1);
        return x.of(0, 8);
    }

    private static void lawValues() {
        // three days of wet 4: 48 run of 1234 at seat 5, half to seat 6, three times (1234, 1186, 1138: 48, 44, 44)
        due("9: belief", throwsOf("belief"), 7);
        due("9: salt", throwsOf("salt-1000"), 1234 - 48 - 44 - 44 - 1000);
        due("9: wet", throwsOf("wet"), 4);
        due("9: seat", throwsOf("seat"), 5);
        due("9: spilt", throwsOf("spilt"), 0);
        due("9: thrown", throwsOf("thrown"), 0);
        due("9: licked", throwsOf("licked"), 0);
        due("9: beside", throwsOf("beside"), 56 + 24 + 22 - 4 + 22 - 4);
        due("9: heirs", throwsOf("heirs"), 1);
        due("9: day", throwsOf("day"), 3);
        due("9: from the left", throwsOf("100-10-1"), 89);
        due("9: products first", throwsOf("2+3*4-5*2"), 4);
        due("9: parts from the left", throwsOf("100/3*3"), 99);
        due("9: a part ahead of a difference", throwsOf("100-7/2"), 97);
        due("9: wraps", throwsOf("9999*9999*9999*9999/9999+500"), wrapped());
        SaltFigures x = Checks.withPersons(1);
        Checks.tell(x, 0, "throws seat+10;", 1);
        due("9: no seat", x.of(0, 8), 9);
        Checks.tell(x, 0, "throws 5-9/2*1+seat/2*100;", 1);
        due("9: towards 0", x.of(0, 8), 1);
    }

    private static int wrapped() {
        int v = 9999 * 9999 * 9999 * 9999 / 9999 + 500;
        return Math.max(0, Math.min(999, v));
    }

    private static void lawHolds() {
        SaltFigures x = Checks.withPersons(1);
        x.set(1, 0, 70);
        Checks.tell(x, 0, "spills 1001;throws 1000;runs 71;", 3);
        due("9: spills held", x.of(0, 7), 1000);
        due("9: throws held", x.of(0, 8), 999);
        due("9: runs held", x.of(0, 9), 70);
        Checks.tell(x, 0, "spills 0-1;throws 0-1;runs 0-1;", 3);
        for (int what = 7; what <= 9; what++) {
            due("9: held to 0", x.of(0, what), 0);
        }
    }

    private static void lawOrder() {
        SaltFigures x = Checks.withPersons(1, 2, 3);
        Checks.tell(x, 0, "throws 11 when belief=1;throws 22 when belief>2;throws 33 when belief=3 or belief<2;", 3);
        due("9: the first that is so", x.of(0, 8), 11);
        due("9: none is so", x.of(1, 8), 20);
        due("9: the second", x.of(2, 8), 22);
        due("9: another word", x.of(2, 7), 500);
        due("9: another word", x.of(2, 9), 0);
        Checks.tell(x, 0, "throws 1 when 1=1 or 1=1 and 1=2;", 1);
        due("9: and binds more", x.of(0, 8), 1);
        Checks.tell(x, 0, "throws 1 when (1=1 or 1=1) and 1=2;", 1);
        due("9: brackets", x.of(0, 8), 10);
        Checks.tell(x, 0, "throws 1 when not 1=2 and 1=2;", 1);
        due("9: not binds most", x.of(0, 8), 10);
        Checks.tell(x, 0, "throws 1 when not (1=2 and 1=2);", 1);
        due("9: not of brackets", x.of(0, 8), 1);
        Checks.tell(x, 0, "throws 1 when 1=2 or 1=1 and 2=2 or 3=4;", 1);
        due("9: or, and, or", x.of(0, 8), 1);
        Checks.tell(x, 0, "throws 1 when 1=2 and (1=1 and 1=1);", 1);
        due("9: and of and", x.of(0, 8), 10);
        Checks.tell(x, 0, "throws 1 when not not 2>1;", 1);
        due("9: not not", x.of(0, 8), 1);
    }

    private static void open() {
        SaltFigures x = Checks.withPersons(1);
        Checks.tell(x, 0, "throws 1 when ((((((((1=1))))))));", 1);
        due("9: eight open", x.of(0, 8), 1);
        Checks.tell(x, 0, "throws 1 when not not not not (((( 1=1 ))))and not not(1=1);", 1);
        Checks.refuse(x, 0, "throws 1 when (((((((((1=1)))))))));", 3, 22);
        Checks.refuse(x, 0, "throws 1 when not not not not (((( not 1=1 ))));", 3, 35);
        Checks.refuse(x, 0, "throws 1 when ((((((((1=1 (", 1, 26);
        Checks.tell(x, 0, "throws 1 when (((1=1)or(1=1))or((((((1=1)))))));", 1);
    }

    private static void table() {
        SaltFigures x = Checks.withPersons(1, 1, 1);
        x.act(1, 2, 9);
        Checks.tell(x, 1, "seat 0 person 0;seat 15 person 1;seat 0 person 1;", 3);
        due("9: moved", x.look(20), 1);
        due("9: no other seat", x.look(35), -1);
        due("9: has none any more", x.of(0, 6), -1);
        due("9: all without first", x.of(2, 6), -1);
        Checks.refuse(x, 1, "seat 0 person 2;seat 16 person 1;", 2, 21);
        due("9: stays", x.look(20), 1);
        Checks.refuse(x, 1, "seat 0 person 3;", 2, 14);
        Checks.refuse(x, 1, "seat 0 person;", 1, 13);
        Checks.refuse(x, 1, "seat person 0;", 1, 5);
        Checks.refuse(x, 1, "seat 0 0;", 1, 7);
        x.act(4, 2, 0);
        Checks.tell(x, 1, "seat 3 person 0;seat 3 person 2;", 2);
        due("9: not alive: nothing", x.look(23), 0);
        Checks.tell(x, 1, "", 0);
        due("9: all without", x.look(23), -1);
        due("41: lines", x.look(10), 0);
    }

    private static void weather() {
        SaltFigures x = Checks.withPersons(1);
        Checks.tell(x, 2, "on 999 wet 9;on 0 cattle 999;on 0 cattle 1;on 0 scold 0 9;on 5 die 0;on 1 feast;", 6);
        Checks.refuse(x, 2, "on 1000 feast;", 2, 3);
        Checks.refuse(x, 2, "on 10000 feast;", 1, 3);
        Checks.refuse(x, 2, "on 0 wet 10;", 2, 9);
        Checks.refuse(x, 2, "on 0 cattle 0;", 2, 12);
        Checks.refuse(x, 2, "on 0 cattle 1000;", 2, 12);
        Checks.refuse(x, 2, "on 0 scold 1 0;", 2, 11);
        Checks.refuse(x, 2, "on 0 scold 0 10;", 2, 13);
        Checks.refuse(x, 2, "on 0 scold 0;", 1, 12);
        Checks.refuse(x, 2, "on 0 die 1;", 2, 9);
        Checks.refuse(x, 2, "on 0 feast 1;", 1, 11);
        Checks.refuse(x, 2, "on 0 person 1;", 1, 5);
        Checks.refuse(x, 2, "on 0;", 1, 4);
        Checks.refuse(x, 2, "on feast;", 1, 3);
        Checks.refuse(x, 2, "feast;", 1, 0);
        Checks.refuse(x, 2, "on 0", 1, 4);
        due("9: stays", x.look(11), 6);
        SaltFigures y = new SaltFigures();
        Checks.refuse(y, 2, "on 0 die 0;", 2, 9);
    }

    private static void heirs() {
        SaltFigures x = Checks.withPersons(1, 1, 1);
        Checks.tell(x, 3, "person 0 heir 1;person 0 heir 2;person 2 heir 1;", 3);
        due("11: the last", x.of(0, 10), 2);
        due("11: one way", x.of(1, 10), -1);
        Checks.tell(x, 0, "throws heirs;", 1);
        due("9: heirs of 1", x.of(1, 8), 1);
        due("9: heirs of 2", x.of(2, 8), 1);
        x.act(4, 0, 0);
        due("9: alive or not", x.of(2, 8), 1);
        Checks.refuse(x, 3, "person 1 heir 1;", 2, 14);
        Checks.refuse(x, 3, "person 3 heir 3;", 2, 7);
        Checks.refuse(x, 3, "person 0 heir 3;", 2, 14);
        Checks.refuse(x, 3, "person 0;", 1, 8);
        Checks.refuse(x, 3, "heir 0;", 1, 0);
        due("9: stays", x.of(0, 10), 2);
        Checks.tell(x, 3, "person 1 heir 0;", 1);
        due("11: all anew", x.of(0, 10), -1);
        due("9: counted anew", x.of(2, 8), 0);
    }

    private static void seventeenth() {
        SaltFigures x = Checks.withPersons(1, 1);
        String[] lines = {"runs 1;", "seat 0 person 0;", "on 0 feast;", "person 0 heir 1;"};
        for (int k = 0; k < 4; k++) {
            Checks.tell(x, k, lines[k].repeat(16), 16);
            due("41: 16 lines", x.look(9 + k), 16);
            Checks.refuse(x, k, lines[k].repeat(17), 3, lines[k].length() * 16);
            Checks.refuse(x, k, lines[k].repeat(16) + " " + lines[k].substring(0, lines[k].indexOf(' ')), 3, lines[k].length() * 16 + 1);
            Checks.refuse(x, k, lines[k].repeat(16) + "7", 1, lines[k].length() * 16);
        }
    }

    private static void aFaultChangesNothing() {
        SaltFigures x = Checks.withPersons(4);
        Checks.tell(x, 0, "throws 77;", 1);
        Checks.refuse(x, 0, "throws 5;spills;", 1, 15);
        due("9: THE LAW stays", x.of(0, 8), 77);
        due("41: its lines, too", x.look(9), 1);
        Checks.tell(x, 0, "", 0);
        due("9: empty", x.of(0, 8), 40);
    }
}
