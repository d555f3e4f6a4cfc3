/** The sentences of TEXTS, TOKENS, FAULTS and promises 7 to 10 that name a bound. */
public final class TextBoundsTest {
    private static final int MIN = Integer.MIN_VALUE;
    private static final int MAX = Integer.MAX_VALUE;
    private static final String[] LINES = {"runs 1;", "seat 0 person 0;", "on 0 feast;", "person 0 heir 1;"};

    public static void main(String[] args) {
        feeding();
        highestFirst();
        ending();
        whatIsCutOffIsGone();
        whichText();
        tapeIsEmptyThen();
        faultOfTheLatest();
        emptyTexts();
        wholeTape();
        letters();
        otherKeywords();
        digits();
        blanksAndSigns();
        theEnd();
        missingTokens();
        firstFault();
        partByNothing();
        tableNumbers();
        weatherNumbers();
        heirNumbers();
        noPersons();
        seventeenLines();
        sixteenthLine();
        nineOpen();
        closedOnes();
        lawHeld();
        lawWraps();
        lawTowardsNothing();
        lawComparisons();
        lawFirstLine();
        lawLastLine();
        lawWords();
        lawSeats();
        lawHeirs();
        tableSeats();
        heirsOfOne();
        textsStay();
        Checks.finish();
    }

    private static void says(String sentence) {
        Checks.says(sentence);
    }

    private static void due(String call, long got, long want) {
        Checks.due(call, got, want);
    }

    private static void due(String call, boolean got, boolean want) {
        Checks.due(call, got, want);
    }

    private static void tell(SaltFigures x, int k, String text, int lines) {
        Checks.tell(x, k, text, lines);
    }

    private static void refuse(SaltFigures x, int k, String text, int fault, int place) {
        Checks.refuse(x, k, text, fault, place);
    }

    private static void feeding() {
        says("7: Twenty bytes come behind the TAPE: how many it has. NONE, and nothing comes, if there would be more than 400");
        SaltFigures x = new SaltFigures();
        for (int i = 1; i <= 20; i++) {
            due("feed", x.feed(MIN, -1, 0, 1, MAX), 20 * i);
        }
        for (int i = 0; i < 2; i++) {
            Checks.refused(x, "feed to 420", () -> x.feed(0, 0, 0, 0, 0), -1);
        }
        for (int n : new int[] {399, 390, 381}) {
            x.end(n);
            Checks.refused(x, "feed to " + (n + 20), () -> x.feed(0, 0, 0, 0, 0), -1);
        }
        x.end(380);
        due("feed to 400", x.feed(0, 0, 0, 0, 0), 400);
        x.end(379);
        due("feed to 399", x.feed(0, 0, 0, 0, 0), 399);
        x.end(0);
        due("feed to 20", x.feed(0, 0, 0, 0, 0), 20);
        x.end(1);
        due("feed to 21", x.feed(0, 0, 0, 0, 0), 21);
    }

    private static void highestFirst() {
        says("7: of each number the highest first");
        for (int i = 0; i < 20; i++) {
            for (int odd : new int[] {128, 255, 127, 1, 0}) {
                int[] v = new int[5];
                for (int j = 0; j < 20; j++) {
                    v[j / 4] = v[j / 4] << 8 | (j == i ? odd : ' ');
                }
                SaltFigures x = new SaltFigures();
                x.feed(v[0], v[1], v[2], v[3], v[4]);
                due("a byte " + odd + " at " + i + ", text(0)", x.text(0), -1);
                due("a byte " + odd + " at " + i + ", fault(0)", x.fault(0), 1);
                due("a byte " + odd + " at " + i + ", fault(1)", x.fault(1), i);
            }
        }
    }

    private static void ending() {
        says("8: true; false, changing nothing, if it has not so many, or n is below 0");
        SaltFigures x = new SaltFigures();
        due("end(0) of 0", x.end(0), true);
        for (int n : new int[] {MIN, -1, 1, 20, 400, MAX}) {
            Checks.refused(x, "end(" + n + ") of 0", () -> x.end(n));
        }
        x.feed(0, 0, 0, 0, 0);
        due("end(20) of 20", x.end(20), true);
        for (int n : new int[] {MIN, -20, -1, 21, 40, 400, MAX}) {
            Checks.refused(x, "end(" + n + ") of 20", () -> x.end(n));
        }
        due("end(19) of 20", x.end(19), true);
        Checks.refused(x, "end(20) of 19", () -> x.end(20));
        due("end(0) of 19", x.end(0), true);
        Checks.refused(x, "end(1) of 0", () -> x.end(1));
        for (int i = 0; i < 20; i++) {
            x.feed(0, 0, 0, 0, 0);
        }
        Checks.refused(x, "end(401) of 400", () -> x.end(401));
        due("end(400) of 400", x.end(400), true);
        due("end(1) of 400", x.end(1), true);
        Checks.refused(x, "end(2) of 1", () -> x.end(2));
    }

    private static void cut(SaltFigures x, String text, int n, int lines, int fault, int place) {
        Checks.put(x, text);
        due("end(" + n + ") of " + text, x.end(n), true);
        due("text(0) of " + n + " of " + text, x.text(0), lines);
        due("fault(0) of " + n + " of " + text, x.fault(0), fault);
        due("fault(1) of " + n + " of " + text, x.fault(1), place);
    }

    private static void whatIsCutOffIsGone() {
        says("8: The TAPE has its first n bytes alone");
        SaltFigures x = Checks.withPersons(1);
        cut(x, "runs 1;", 7, 1, 0, -1);
        cut(x, "runs 1;", 6, -1, 1, 6);
        cut(x, "runs 1;", 3, -1, 1, 0);
        cut(x, "runs 1;", 0, 0, 0, -1);
        cut(x, "throws 12345;", 12, -1, 1, 7);
        cut(x, "throws 12345;", 11, -1, 1, 11);
        cut(x, "runs 1;spillsx", 13, -1, 1, 13);
        cut(x, "runs 1;runs 2;", 7, 1, 0, -1);
        Checks.put(x, "runs 1;runs 2;");
        x.end(7);
        due("behind 7 comes feed()", x.feed(0x72756e73, 0x20333b20, 0x20202020, 0x20202020, 0x20202020), 27);
        due("text(0) of both", x.text(0), 2);
        says("9: The TAPE, empty then");
        due("text(0) once more", x.text(0), 0);
        due("feed()", x.feed(0x20202020, 0x20202020, 0x20202020, 0x20202020, 0x20202020), 20);
        due("text(0) of blanks", x.text(0), 0);
    }

    private static void whichText() {
        says("9: NONE: no such one (fault() tells 0)");
        SaltFigures x = Checks.withPersons(1, 1);
        for (int k = 0; k < 4; k++) {
            tell(x, k, LINES[k], 1);
        }
        x.days(1);
        for (int k : new int[] {MIN, -1, 4, 5, MAX}) {
            String was = Sight.told(x) + x.look(13);
            refuse(x, 0, "x", 1, 0);
            refuse(x, k, LINES[0], 0, -1);
            refuse(x, k, "", 0, -1);
            due("text(" + k + ") changes nothing else", (Sight.told(x) + x.look(13)).equals(was), true);
        }
        for (int k = 0; k < 4; k++) {
            tell(x, k, LINES[k].repeat(2), 2);
            due("look(" + (9 + k) + ")", x.look(9 + k), 2);
        }
    }

    private static void tapeIsEmptyThen() {
        says("9: empty then (whatever k, with a FAULT too)");
        for (int k = -1; k <= 4; k++) {
            for (String text : new String[] {"?", k < 0 || k > 3 ? "runs 1;" : LINES[k]}) {
                SaltFigures x = Checks.withPersons(1, 1);
                Checks.put(x, text);
                due("the TAPE ahead of it", Sight.tape(x), text.length());
                x.text(k);
                due("the TAPE behind text(" + k + ") of " + text, Sight.tape(x), 0);
                due("feed behind it", x.feed(0, 0, 0, 0, 0), 20);
            }
        }
    }

    private static void faultOfTheLatest() {
        says("10: Of the latest text() what 0 the FAULT (0 without one), 1 its place (NONE). NONE for another what");
        SaltFigures x = Checks.withPersons(1);
        due("fault(0) at first", x.fault(0), 0);
        due("fault(1) at first", x.fault(1), -1);
        for (int i = 0; i < 2; i++) {
            for (int what : new int[] {MIN, -1, 2, 3, MAX}) {
                due("fault(" + what + ")", x.fault(what), -1);
            }
            refuse(x, 0, "runs 1/0;", 2, 7);
        }
        Checks.put(x, "runs 1;");
        due("fault(0) stays till text()", x.fault(0), 2);
        due("fault(1) stays till text()", x.fault(1), 7);
        due("text(0)", x.text(0), 1);
        due("fault(0) behind it", x.fault(0), 0);
        due("fault(1) behind it", x.fault(1), -1);
        refuse(x, 0, "?", 1, 0);
        refuse(x, 9, "?", 0, -1);
        refuse(x, 0, "((", 1, 0);
        tell(x, 0, "", 0);
    }

    private static void emptyTexts() {
        says("TEXTS (empty at first). {..}: no line at all, too");
        SaltFigures x = Checks.withPersons(1, 1);
        for (int k = 0; k < 4; k++) {
            due("look(" + (9 + k) + ") at first", x.look(9 + k), 0);
            for (String text : new String[] {"", " ", "\n", " \n  \n", " ".repeat(400)}) {
                tell(x, k, LINES[k], 1);
                due("look(" + (9 + k) + ")", x.look(9 + k), 1);
                tell(x, k, text, 0);
                due("look(" + (9 + k) + ") of nothing", x.look(9 + k), 0);
            }
        }
    }

    private static void wholeTape() {
        says("(the TAPE: not more than 400)");
        SaltFigures x = Checks.withPersons(1);
        tell(x, 0, "throws" + " ".repeat(390) + "777;", 1);
        due("of(0, 8)", x.of(0, 8), 777);
        refuse(x, 0, "throws" + " ".repeat(390) + "7777", 1, 400);
        tell(x, 0, "throws 0" + "+1".repeat(195) + " ;", 1);
        due("of(0, 8)", x.of(0, 8), 195);
        tell(x, 0, "throws 1" + "*9999/9999".repeat(39) + " ;", 1);
        due("of(0, 8)", x.of(0, 8), 1);
        String longest = "throws 5 when " + "1=2 or ".repeat(54) + "1=1    ;";
        due("its length", longest.length(), 400);
        tell(x, 0, longest, 1);
        due("of(0, 8)", x.of(0, 8), 5);
    }

    private static void letters() {
        SaltFigures x = Checks.withPersons(1);
        says("letters (a .. z, A .. Z) as many as stand together are KEYWORDS or none");
        for (char c : new char[] {'a', 'z', 'A', 'Z', 'm', 'M'}) {
            refuse(x, 0, "runs" + c + " 1;", 1, 0);
            refuse(x, 0, "runs 1;" + c, 1, 7);
        }
        for (char c : new char[] {'`', '{', '@', '[', '_', (char) 225, (char) 193}) {
            refuse(x, 0, "runs" + c + " 1;", 1, 4);
        }
        for (String word : new String[] {"Runs", "RUNS", "run", "runss", "uns", "spillsthrows", "throw", "hrows"}) {
            refuse(x, 0, word + " 1;", 1, 0);
        }
        for (String word : new String[] {"sal", "alt", "saltsalt", "Salt", "belie", "belieff", "hei", "heirss", "da", "dayy"}) {
            refuse(x, 0, "runs " + word + ";", 1, 5);
        }
        tell(x, 0, "runs salt+belief+wet+seat+spilt+thrown+licked+beside+heirs+day;", 1);
        tell(x, 0, "spills 1;throws 1;runs 1 when not 1=1 or 1=1 and 1=1;", 3);
    }

    private static void otherKeywords() {
        says("KEYWORDS (those told here for that text) or none");
        SaltFigures x = Checks.withPersons(1, 1);
        for (int k = 0; k < 4; k++) {
            for (int other = 0; other < 4; other++) {
                if (other == k) {
                    tell(x, k, LINES[k], 1);
                } else {
                    refuse(x, k, LINES[other], 1, 0);
                    refuse(x, k, LINES[k] + " " + LINES[other], 1, LINES[k].length() + 1);
                }
            }
        }
        refuse(x, 0, "runs person;", 1, 5);
        refuse(x, 0, "runs heir;", 1, 5);
        refuse(x, 0, "runs runs;", 1, 5);
        refuse(x, 1, "seat 0 heir 1;", 1, 7);
        refuse(x, 3, "person 0 person 1;", 1, 9);
        refuse(x, 3, "person 0 heirs 1;", 1, 9);
        refuse(x, 2, "on 0 seat 1;", 1, 5);
        refuse(x, 2, "on day wet 1;", 1, 3);
    }

    private static void digits() {
        SaltFigures x = Checks.withPersons(1);
        says("digits as many as stand together NUMBERS of 1 to 4 digits or none");
        tell(x, 0, "runs 0;runs 9;runs 9999;runs 0000;runs 0900;", 5);
        for (String none : new String[] {"10000", "00000", "00001", "12345", "99999", "2147483648", "4294967296", "99999999999999999999"}) {
            refuse(x, 0, "runs " + none + ";", 1, 5);
            refuse(x, 1, "seat " + none + " person 0;", 1, 5);
            refuse(x, 0, "runs 1/" + none + ";", 1, 7);
        }
        tell(x, 0, "throws 0999;", 1);
        due("of(0, 8)", x.of(0, 8), 999);
        tell(x, 0, "throws 9999-9001;", 1);
        due("of(0, 8)", x.of(0, 8), 998);
        refuse(x, 0, "runs 1:", 1, 6);
        refuse(x, 0, "runs 12 34;", 1, 8);
        refuse(x, 0, "runs 12\n34;", 1, 8);
        tell(x, 0, "throws 5when 1=1;runs1;runs salt+1when1<2and2<3;", 3);
        due("of(0, 8)", x.of(0, 8), 5);
    }

    private static void blanksAndSigns() {
        says("Blanks (32, 10) between");
        SaltFigures x = Checks.withPersons(1);
        for (int c = 0; c < 256; c++) {
            boolean blank = c == 32 || c == 10;
            String text = "runs 1" + (char) c + ";";
            if (blank) {
                tell(x, 0, text, 1);
                tell(x, 0, (char) c + "runs" + (char) c + "1;" + (char) c, 1);
            } else if (c < '0' || c > '9') {
                refuse(x, 0, text, 1, c == ';' ? 7 : "+-*/".indexOf(c) >= 0 ? 7 : 6);
            } else {
                tell(x, 0, text, 1);
            }
        }
        says("; + - * / ( ) < = > .");
        for (int c = 1; c < 256; c++) {
            String text = "runs 1 when 1" + (char) c + "1;";
            if ("<=>".indexOf(c) >= 0) {
                tell(x, 0, text, 1);
            } else if ("+-*/".indexOf(c) >= 0 || c >= '0' && c <= '9') {
                refuse(x, 0, text, 1, 15);
            } else {
                refuse(x, 0, text, 1, c == 32 || c == 10 ? 14 : 13);
            }
        }
    }

    private static void theEnd() {
        says("FAULT 1 (the end: the text's length)");
        SaltFigures x = Checks.withPersons(1, 1);
        String[][] whole = {{"runs", " 1", "+", "1", " when", " not", " (", "1", "<", "2", " and", " 1=1", ")", ";"},
            {"seat", " 0", " person", " 0", ";"}, {"on", " 0", " scold", " 0", " 5", ";"}, {"person", " 0", " heir", " 1", ";"}};
        for (int k = 0; k < 4; k++) {
            StringBuilder s = new StringBuilder();
            for (String token : whole[k]) {
                s.append(token);
                if (token.equals(";")) {
                    tell(x, k, s.toString(), 1);
                    tell(x, k, s + " \n", 1);
                } else {
                    refuse(x, k, s.toString(), 1, s.length());
                    refuse(x, k, s + " \n", 1, s.length() + 2);
                    refuse(x, k, s + "?", 1, s.length());
                    refuse(x, k, s + " ?", 1, s.length() + 1);
                }
            }
        }
    }

    private static void missingTokens() {
        says("FAULT 1: what can't stand there (; in the place of each, each left out, each twice)");
        SaltFigures x = Checks.withPersons(1, 1);
        String[][] whole = {{"runs", "1", "+", "1", "when", "1", "<", "2", ";"}, {"seat", "0", "person", "0", ";"},
            {"on", "0", "wet", "1", ";"}, {"on", "0", "cattle", "1", ";"}, {"on", "0", "feast", ";"}, {"on", "0", "scold", "0", "5", ";"},
            {"on", "0", "die", "0", ";"}, {"person", "0", "heir", "1", ";"}};
        int[] texts = {0, 1, 2, 2, 2, 2, 2, 3};
        int[] ends = {2, 4, 8};
        for (int t = 0; t < whole.length; t++) {
            for (int i = 0; i < whole[t].length; i++) {
                StringBuilder cut = new StringBuilder();
                for (int j = 0; j < i; j++) {
                    cut.append(whole[t][j]).append(' ');
                }
                int place = cut.length();
                // THE LAW's line may end behind each sum and behind each comparison
                boolean end = whole[t][i].equals(";") || t == 0 && (i == ends[0] || i == ends[1] || i == ends[2]);
                if (end) {
                    tell(x, texts[t], cut + ";", 1);
                } else {
                    refuse(x, texts[t], cut + ";", 1, place);
                    refuse(x, texts[t], cut + "heirsheir ;", 1, place);
                }
                String twice = cut + whole[t][i] + " " + whole[t][i] + " ;";
                if (twice.equals("on 0 scold 0 0 ;")) {
                    tell(x, 2, twice, 1);
                } else {
                    refuse(x, texts[t], twice, 1, place + whole[t][i].length() + 1);
                }
            }
        }
    }

    private static void firstFault() {
        says("FAULTS, the first by its place");
        SaltFigures x = Checks.withPersons(1, 1);
        refuse(x, 0, "runs 1/0 ?", 2, 7);
        refuse(x, 0, "runs ? 1/0;", 1, 5);
        refuse(x, 0, "runs 1;runs 1/0;runs;", 2, 14);
        refuse(x, 1, "seat 16 person 2;", 2, 5);
        refuse(x, 1, "seat 15 person 2 person", 2, 15);
        refuse(x, 2, "on 1000 scold 2 10", 2, 3);
        refuse(x, 2, "on 999 scold 2 10", 2, 13);
        refuse(x, 2, "on 999 scold 1 10", 2, 15);
        refuse(x, 3, "person 2 heir 2;", 2, 7);
        refuse(x, 3, "person 1 heir 1 ?", 2, 14);
        refuse(x, 3, "person 1 ? heir 1", 1, 9);
        says("at one place the least");
        refuse(x, 1, "seat 00016 person 0;", 1, 5);
        refuse(x, 3, "person 0 heir 00000;", 1, 14);
        refuse(x, 0, "runs 1/00000;", 1, 7);
        refuse(x, 0, "runs 1;".repeat(16) + "salt", 1, 112);
        refuse(x, 0, "runs 1;".repeat(16) + ";", 1, 112);
        refuse(x, 0, "runs 1 when ((((((((1=1(", 1, 23);
        refuse(x, 0, "runs 1 when ((((((((1=1 not", 1, 24);
    }

    private static void partByNothing() {
        says("FAULT 2 (at the NUMBER) a part by 0");
        SaltFigures x = Checks.withPersons(1);
        for (String zero : new String[] {"0", "00", "000", "0000"}) {
            refuse(x, 0, "runs salt/" + zero + ";", 2, 10);
            refuse(x, 0, "runs 1 when 1<salt / " + zero + ";", 2, 21);
        }
        tell(x, 0, "throws 500/1;", 1);
        due("of(0, 8) by 1", x.of(0, 8), 500);
        tell(x, 0, "throws 9999*500/9999;", 1);
        due("of(0, 8) by 9999", x.of(0, 8), 500);
        tell(x, 0, "throws 9998/9999;", 1);
        due("of(0, 8) by more", x.of(0, 8), 0);
        tell(x, 0, "throws 0/5+0*0;", 1);
        due("of(0, 8) of 0", x.of(0, 8), 0);
    }

    private static SaltFigures sixteen() {
        SaltFigures x = new SaltFigures();
        for (int i = 0; i < 16; i++) {
            x.person(1);
        }
        return x;
    }

    private static void tableNumbers() {
        says("TABLE (SEAT 0 .. 15); FAULT 2: one beyond its bounds; a PERSON that there is not");
        SaltFigures x = sixteen();
        tell(x, 1, "seat 0 person 15;seat 15 person 0;seat 0015 person 0000;", 3);
        refuse(x, 1, "seat 16 person 0;", 2, 5);
        refuse(x, 1, "seat 9999 person 0;", 2, 5);
        refuse(x, 1, "seat 0 person 16;", 2, 14);
        refuse(x, 1, "seat 0 person 9999;", 2, 14);
        refuse(x, 1, "seat -1 person 0;", 1, 5);
        refuse(x, 1, "seat 0 person -1;", 1, 14);
        due("look(20)", x.look(20), 15);
        due("look(35)", x.look(35), 0);
        SaltFigures y = Checks.withPersons(1, 1);
        tell(y, 1, "seat 0 person 1;", 1);
        refuse(y, 1, "seat 0 person 2;", 2, 14);
        y.act(4, 1, 0);
        tell(y, 1, "seat 0 person 1;", 1);
    }

    private static void weatherNumbers() {
        says("WEATHER (DAY 0 .. 999; wet, scold 0 .. 9; cattle 1 .. 999)");
        SaltFigures x = sixteen();
        tell(x, 2, "on 0 wet 0;on 999 wet 9;on 0 cattle 1;on 999 cattle 999;on 0 scold 0 0;on 999 scold 15 9;on 0 die 0;on 999 die 15;", 8);
        for (String what : new String[] {"wet 0", "cattle 1", "feast", "scold 0 0", "die 0"}) {
            refuse(x, 2, "on 1000 " + what + ";", 2, 3);
            refuse(x, 2, "on 9999 " + what + ";", 2, 3);
        }
        for (String much : new String[] {"10", "9999"}) {
            refuse(x, 2, "on 0 wet " + much + ";", 2, 9);
            refuse(x, 2, "on 0 scold 0 " + much + ";", 2, 13);
        }
        for (String much : new String[] {"0", "0000", "1000", "9999"}) {
            refuse(x, 2, "on 0 cattle " + much + ";", 2, 12);
        }
        says("FAULT 2: a PERSON that there is not");
        for (String nobody : new String[] {"16", "9999"}) {
            refuse(x, 2, "on 0 scold " + nobody + " 0;", 2, 11);
            refuse(x, 2, "on 0 die " + nobody + ";", 2, 9);
        }
        due("look(11)", x.look(11), 8);
    }

    private static void heirNumbers() {
        says("HEIRS; FAULT 2: a PERSON that there is not; the same PERSON again (of HEIRS, behind heir)");
        SaltFigures x = sixteen();
        tell(x, 3, "person 0 heir 15;person 15 heir 0;person 15 heir 14;person 0 heir 1;", 4);
        refuse(x, 3, "person 16 heir 0;", 2, 7);
        refuse(x, 3, "person 9999 heir 0;", 2, 7);
        refuse(x, 3, "person 0 heir 16;", 2, 14);
        refuse(x, 3, "person 0 heir 9999;", 2, 14);
        refuse(x, 3, "person 16 heir 16;", 2, 7);
        for (String same : new String[] {"0", "1", "15", "0007"}) {
            refuse(x, 3, "person " + same + " heir " + same + ";", 2, 13 + same.length());
        }
        refuse(x, 3, "person 7 heir 0007;", 2, 14);
        due("of(15, 10)", x.of(15, 10), 14);
        says("the same PERSON again: in other lines, too, and in other texts he may stand");
        tell(x, 3, "person 1 heir 2;person 1 heir 2;person 2 heir 1;", 3);
        tell(x, 1, "seat 1 person 1;seat 2 person 1;", 2);
        tell(x, 2, "on 1 scold 1 1;on 1 die 1;on 1 die 1;", 3);
    }

    private static void noPersons() {
        says("a PERSON that there is not (Nobody at the table)");
        SaltFigures x = new SaltFigures();
        refuse(x, 1, "seat 0 person 0;", 2, 14);
        refuse(x, 2, "on 0 scold 0 0;", 2, 11);
        refuse(x, 2, "on 0 die 0;", 2, 9);
        refuse(x, 3, "person 0 heir 1;", 2, 7);
        tell(x, 2, "on 0 wet 1;on 0 cattle 1;on 0 feast;", 3);
        tell(x, 0, "spills 1;", 1);
        x.person(1);
        tell(x, 1, "seat 0 person 0;", 1);
        refuse(x, 3, "person 0 heir 1;", 2, 14);
        x.person(1);
        tell(x, 3, "person 0 heir 1;", 1);
    }

    private static void seventeenLines() {
        says("16 lines of each at most; FAULT 3 (at its KEYWORD) the 17th line of a text");
        SaltFigures x = Checks.withPersons(1, 1);
        String[] first = {"spills", "seat", "on", "person"};
        for (int k = 0; k < 4; k++) {
            int n = LINES[k].length();
            tell(x, k, LINES[k].repeat(15), 15);
            tell(x, k, LINES[k].repeat(16), 16);
            due("look(" + (9 + k) + ")", x.look(9 + k), 16);
            tell(x, k, LINES[k].repeat(16) + " \n ", 16);
            refuse(x, k, LINES[k].repeat(17), 3, 16 * n);
            refuse(x, k, LINES[k].repeat(18), 3, 16 * n);
            refuse(x, k, LINES[k].repeat(16) + "  " + first[k], 3, 16 * n + 2);
            refuse(x, k, LINES[k].repeat(16) + first[k] + "?", 3, 16 * n);
            refuse(x, k, LINES[k].repeat(16) + "?", 1, 16 * n);
            refuse(x, k, LINES[k].repeat(16) + "5", 1, 16 * n);
            refuse(x, k, LINES[k].repeat(16) + "feast", 1, 16 * n);
            due("look(" + (9 + k) + ") stays", x.look(9 + k), 16);
        }
        for (String word : new String[] {"spills", "throws", "runs"}) {
            refuse(x, 0, LINES[0].repeat(16) + word + " 1;", 3, 112);
        }
    }

    private static void sixteenthLine() {
        says("16 lines of each at most (the 16th is told, too)");
        SaltFigures x = sixteen();
        StringBuilder table = new StringBuilder();
        StringBuilder heirs = new StringBuilder();
        StringBuilder weather = new StringBuilder();
        for (int i = 0; i < 16; i++) {
            table.append("seat ").append(15 - i).append(" person ").append(i).append(';');
            heirs.append("person ").append(i).append(" heir ").append((i + 1) % 16).append(';');
            weather.append("on ").append(i).append(i % 2 == 0 ? " wet " + i / 2 : " scold " + i + " " + i / 2).append(';');
        }
        tell(x, 1, table.toString(), 16);
        tell(x, 3, heirs.toString(), 16);
        tell(x, 2, weather.toString(), 16);
        for (int i = 0; i < 16; i++) {
            due("look(" + (35 - i) + ")", x.look(35 - i), i);
            due("of(" + i + ", 10)", x.of(i, 10), (i + 1) % 16);
        }
        for (int day = 0; day < 16; day++) {
            x.days(1);
            if (day % 2 == 0) {
                due("look(2) behind DAY " + day, x.look(2), day / 2);
            } else {
                due("of(" + day + ", 0) behind DAY " + day, x.of(day, 0), day / 2);
            }
        }
    }

    private static void nineOpen() {
        says("FAULT 3 (at it) the 9th ( or not that is open");
        SaltFigures x = Checks.withPersons(1);
        String line = "throws 1 when ";
        for (int not = 0; not <= 9; not++) {
            String nots = "not ".repeat(not);
            String eight = nots + "(".repeat(8 - Math.min(8, not));
            if (not <= 8) {
                tell(x, 0, line + eight + "1=1" + ")".repeat(8 - not) + ";", 1);
                due("of(0, 8) of " + eight, x.of(0, 8), not % 2 == 0 ? 1 : 10);
                refuse(x, 0, line + eight + "(1=1" + ")".repeat(9 - not) + ";", 3, line.length() + eight.length());
                refuse(x, 0, line + eight + "not 1=1" + ")".repeat(8 - not) + ";", 3, line.length() + eight.length());
            } else {
                refuse(x, 0, line + nots + "1=1;", 3, line.length() + 4 * 8);
            }
        }
        refuse(x, 0, line + "(".repeat(20), 3, line.length() + 8);
        refuse(x, 0, line + "( not ".repeat(5), 3, line.length() + 6 * 4);
        refuse(x, 0, line + "(((((((1=1 and not (", 3, line.length() + 19);
        refuse(x, 0, line + "(((((((1=1 or (1=1 and (1=1", 3, line.length() + 23);
    }

    private static void closedOnes() {
        says("the 9th ( or not that is open (those that are closed do not count)");
        SaltFigures x = Checks.withPersons(1);
        tell(x, 0, "throws 1 when " + "not 1=2 and ".repeat(20) + "1=1;", 1);
        due("of(0, 8)", x.of(0, 8), 1);
        tell(x, 0, "throws 1 when " + "(1=1)and ".repeat(20) + "1=1;", 1);
        due("of(0, 8)", x.of(0, 8), 1);
        tell(x, 0, "throws 1 when (((((((1=2)or(1=1))and not(1=2))))or not not not 1=1));", 1);
        due("of(0, 8)", x.of(0, 8), 1);
        tell(x, 0, "throws 1 when (((((((1=1 and not 1=2 and not 1=2 and (1=1) and (1=1))))))));", 1);
        due("of(0, 8)", x.of(0, 8), 1);
        tell(x, 0, "throws 1 when ((((((((1=1))))))));throws 2 when ((((((((1=1))))))));", 2);
        tell(x, 0, "throws 1 when ((((((((1=1)))))))) and not not not not not not not not 1=1;", 1);
        tell(x, 0, "throws 1 when not (not (not (not (1=1))));", 1);
        due("of(0, 8)", x.of(0, 8), 1);
    }

    private static int told(SaltFigures x, String word, String sum, int what) {
        tell(x, 0, word + " " + sum + ";", 1);
        return x.of(0, what);
    }

    private static void lawHeld() {
        SaltFigures x = Checks.withPersons(5);
        x.set(1, 0, 4321);
        says("spills held to 0 .. 1000");
        String[] spills = {"0-9999", "0-1", "0", "1", "999", "1000", "1001", "9999"};
        int[] spilt = {0, 0, 0, 1, 999, 1000, 1000, 1000};
        says("throws to 0 .. 999");
        int[] thrown = {0, 0, 0, 1, 999, 999, 999, 999};
        for (int i = 0; i < spills.length; i++) {
            due("spills " + spills[i], told(x, "spills", spills[i], 7), spilt[i]);
            due("throws " + spills[i], told(x, "throws", spills[i], 8), thrown[i]);
        }
        says("runs to 0 .. his SALT");
        for (int salt : new int[] {0, 1, 4321, 9999}) {
            x.set(1, 0, salt);
            due("runs 0-1 of " + salt, told(x, "runs", "0-1", 9), 0);
            due("runs 0 of " + salt, told(x, "runs", "0", 9), 0);
            due("runs 1 of " + salt, told(x, "runs", "1", 9), Math.min(1, salt));
            due("runs salt-1 of " + salt, told(x, "runs", "salt-1", 9), Math.max(0, salt - 1));
            due("runs salt of " + salt, told(x, "runs", "salt", 9), salt);
            due("runs salt+1 of " + salt, told(x, "runs", "salt+1", 9), salt);
        }
        says("none: spills: 500, throws: 10 times belief, runs: wet times what salt by 100 is");
        tell(x, 0, "", 0);
        int[][] wet = {{0, 9999, 0}, {1, 99, 0}, {1, 100, 1}, {9, 99, 0}, {9, 100, 9}, {9, 199, 9}, {9, 200, 18}, {9, 9999, 891}, {9, 0, 0}};
        for (int[] w : wet) {
            x.set(2, 0, w[0]);
            x.set(1, 0, w[1]);
            due("of(0, 9) of " + w[1] + " in wet " + w[0], x.of(0, 9), w[2]);
        }
        due("of(0, 7)", x.of(0, 7), 500);
        for (int b = 0; b <= 9; b++) {
            x.set(0, 0, b);
            due("of(0, 8) of " + b, x.of(0, 8), 10 * b);
        }
    }

    private static void lawWraps() {
        says("Ints, which wrap");
        SaltFigures x = Checks.withPersons(5);
        // 9999 * 9999 * 21 = 2099580021, 22 times: 2199560022, which is 4294967296 more than -2095407274
        due("21 times", told(x, "throws", "9999*9999*21/2500/2500", 8), 2099580021 / 2500 / 2500);
        due("22 times", told(x, "throws", "9999*9999*22/2500/2500+500", 8), -2095407274 / 2500 / 2500 + 500);
        // 65536 * 65536 is 0, 32768 * 65536 the least int; the least int less 1 is the greatest
        due("0", told(x, "throws", "256*256*256*256+7", 8), 7);
        due("the least int", told(x, "throws", "256*256*256*128/9999/1000+500", 8), MIN / 9999 / 1000 + 500);
        tell(x, 0, "throws 5 when 256*256*256*128<0;", 1);
        due("below 0", x.of(0, 8), 5);
        tell(x, 0, "throws 5 when 256*256*256*128-1>0;", 1);
        due("above 0", x.of(0, 8), 5);
        tell(x, 0, "throws 5 when 256*256*256*128-1+1<0;", 1);
        due("below 0 again", x.of(0, 8), 5);
        tell(x, 0, "throws 5 when 256*256*256*128=0-256*256*256*128;", 1);
        due("the least int is itself less than 0", x.of(0, 8), 5);
        tell(x, 0, "spills 256*256*256*128-1;", 1);
        due("spills held", x.of(0, 7), 1000);
        tell(x, 0, "spills 256*256*256*128;", 1);
        due("spills held", x.of(0, 7), 0);
    }

    private static void lawTowardsNothing() {
        says("/ goes towards 0");
        SaltFigures x = Checks.withPersons(5);
        int[] parts = {0, 0, 0, 1, 1, 1, 2};
        for (int i = 0; i < parts.length; i++) {
            due(i + "/3", told(x, "throws", "100+" + i + "/3", 8), 100 + parts[i]);
            tell(x, 0, "throws 100+seat*" + i + "/3;", 1);
            due("-" + i + "/3", x.of(0, 8), 100 - parts[i]);
        }
        due("seat/2", told(x, "throws", "7+seat/2", 8), 7);
        due("seat/1", told(x, "throws", "7+seat/1", 8), 6);
        due("seat/9999", told(x, "throws", "7+seat/9999", 8), 7);
    }

    private static void lawComparisons() {
        says("C = E (< | = | >) E");
        SaltFigures x = Checks.withPersons(5);
        String[] signs = {"<", "=", ">"};
        for (int sign = 0; sign < 3; sign++) {
            for (int than = 4; than <= 6; than++) {
                tell(x, 0, "throws 1 when belief" + signs[sign] + than + ";", 1);
                boolean is = sign == 0 ? 5 < than : sign == 1 ? 5 == than : 5 > than;
                due("belief" + signs[sign] + than, x.of(0, 8), is ? 1 : 50);
                tell(x, 0, "throws 1 when not belief" + signs[sign] + than + ";", 1);
                due("not belief" + signs[sign] + than, x.of(0, 8), is ? 50 : 1);
            }
        }
        says("B = A {or A}. A = C {and C}.");
        for (int bits = 0; bits < 8; bits++) {
            boolean a = (bits & 1) > 0;
            boolean b = (bits & 2) > 0;
            boolean c = (bits & 4) > 0;
            String[] t = {a ? "1=1" : "1=2", b ? "2>1" : "1>2", c ? "1<2" : "2<1"};
            boolean[] is = {a || b && c, a && b || c, (a || b) && c, a && (b || c), !a || b && !c, !(a || b) && c, a || b || c, a && b && c};
            String[] so = {"%s or %s and %s", "%s and %s or %s", "(%s or %s) and %s", "%s and (%s or %s)", "not %s or %s and not %s",
                "not (%s or %s) and %s", "%s or %s or %s", "%s and %s and %s"};
            for (int i = 0; i < so.length; i++) {
                String condition = String.format(so[i], t[0], t[1], t[2]);
                tell(x, 0, "throws 1 when " + condition + ";", 1);
                due(condition, x.of(0, 8), is[i] ? 1 : 50);
            }
        }
    }

    private static void lawFirstLine() {
        says("E of the first line with that word whose B is so, or that has none (none: ..)");
        SaltFigures x = Checks.withPersons(5);
        tell(x, 0, "throws 1 when 1=2;throws 2;throws 3;", 3);
        due("the second of three", x.of(0, 8), 2);
        tell(x, 0, "throws 1;throws 2 when 1=1;", 2);
        due("the first of two", x.of(0, 8), 1);
        tell(x, 0, "runs 1;spills 2;throws 3 when 1=2;", 3);
        due("none of throws", x.of(0, 8), 50);
        due("spills", x.of(0, 7), 2);
        tell(x, 0, "throws 1 when 1=2;".repeat(15) + "throws 16;", 16);
        due("the 16th line", x.of(0, 8), 16);
        due("none of spills", x.of(0, 7), 500);
    }

    private static void lawLastLine() {
        says("E of the first line with that word whose B is so (of 16 lines)");
        SaltFigures x = Checks.withPersons(5);
        String fifteen = "throws 7 when 1=2;".repeat(15);
        tell(x, 0, fifteen + "throws 1+2*3*2-1+2 when 1+1=2 and (1=2 or 2=1+1*1);", 16);
        due("the 16th, with the longest sums", x.of(0, 8), 14);
        tell(x, 0, fifteen + "throws 5 when (1=2 or (1=2 or (1=2 or (1=2 or (1=2 or (1=2 or (1=2 or (1<1*1+1))))))));", 16);
        due("the 16th, with eight open", x.of(0, 8), 5);
        tell(x, 0, "throws 1 when (1=2 or 1=1 and (1=2 or 1=1 and (1=2 or 1=1 and (1=2 or 1=1 and (1=2 or 1=1 and (1=2 or 1=1 and (1=2"
                + " or 1=1 and (1=2 or 1=1 and 7=1+2*3))))))));", 1);
        due("eight open, each behind or and and", x.of(0, 8), 1);
    }

    private static void lawWords() {
        says("What THE LAW tells of a PERSON: belief, salt, seat, spilt, thrown, licked: his; wet; beside; heirs; day");
        SaltFigures x = Checks.withPersons(7, 2, 3);
        tell(x, 3, "person 1 heir 0;person 2 heir 0;", 2);
        tell(x, 0, "spills 0;throws 11;", 2);
        tell(x, 2, "on 0 cattle 3;", 1);
        x.act(0, 0, 0);
        x.act(0, 0, 0);
        x.set(1, 0, 900);
        x.act(1, 0, 5);
        x.act(1, 1, 6);
        x.set(1, 1, 56);
        x.days(1);
        x.set(2, 0, 4);
        String[] words = {"belief", "salt", "wet", "seat", "spilt", "thrown", "licked", "beside", "heirs", "day"};
        int[] his = {7, 897, 4, 5, 2, 22, 3, 56, 2, 1};
        int[] others = {3, 0, 4, -1, 0, 0, 0, 0, 0, 1};
        for (int i = 0; i < 10; i++) {
            tell(x, 0, "throws " + words[i] + "+1;", 1);
            due(words[i] + "+1", x.of(0, 8), his[i] + 1);
            due(words[i] + "+1 of another", x.of(2, 8), others[i] + 1);
        }
    }

    private static void lawSeats() {
        says("seat (NONE: -1)");
        SaltFigures x = Checks.withPersons(5, 5, 5);
        tell(x, 0, "throws seat+1;", 1);
        due("no SEAT", x.of(0, 8), 0);
        for (int seat : new int[] {0, 1, 15}) {
            x.act(1, 0, seat);
            due("SEAT " + seat, x.of(0, 8), seat + 1);
            x.act(2, 0, 0);
        }
        says("beside: SALT of who has the next greater SEAT number just beside his (nobody, no SEAT: 0)");
        tell(x, 0, "throws beside+10;", 1);
        due("no SEAT, nobody at 0", x.of(0, 8), 10);
        x.act(1, 0, 7);
        due("at 7, nobody at 8", x.of(0, 8), 10);
        x.act(2, 0, 0);
        tell(x, 0, "throws beside;", 1);
        x.set(1, 0, 7);
        x.set(1, 1, 500);
        x.set(1, 2, 60);
        x.act(1, 1, 0);
        due("no SEAT, one at 0", x.of(0, 8), 0);
        x.act(1, 2, 15);
        int[][] seats = {{1, 0}, {2, 0}, {13, 0}, {14, 60}};
        for (int[] s : seats) {
            x.act(1, 0, s[0]);
            due("at " + s[0], x.of(0, 8), s[1]);
            x.act(2, 0, 0);
        }
        due("at 15, one at 0", x.of(2, 8), 0);
        x.act(1, 0, 1);
        due("at 0, one at 1", x.of(1, 8), 7);
        x.set(1, 0, 0);
        due("at 0, one without SALT at 1", x.of(1, 8), 0);
    }

    private static void lawHeirs() {
        says("heirs: for how many PERSONS (ALIVE or not) he is the heir");
        SaltFigures x = sixteen();
        tell(x, 0, "throws heirs;", 1);
        StringBuilder s = new StringBuilder();
        for (int i = 1; i < 16; i++) {
            s.append("person ").append(i).append(" heir 0;");
        }
        tell(x, 3, s.toString(), 15);
        due("of fifteen", x.of(0, 8), 15);
        due("of none", x.of(1, 8), 0);
        x.act(4, 15, 0);
        x.act(4, 0, 0);
        due("ALIVE or not", x.of(0, 8), 15);
        tell(x, 3, "person 1 heir 2;person 1 heir 3;", 2);
        due("of several the last", x.of(2, 8), 0);
        due("of several the last", x.of(3, 8), 1);
        tell(x, 3, "person 1 heir 2;person 1 heir 2;", 2);
        due("told twice", x.of(2, 8), 1);
        tell(x, 3, "person 0 heir 2;person 15 heir 2;", 2);
        due("of the first and the last one", x.of(2, 8), 2);
        tell(x, 3, "person 0 heir 15;person 1 heir 15;", 2);
        due("of the last one", x.of(15, 8), 2);
        tell(x, 3, "person 1 heir 2;person 1 heir 2;", 2);
        tell(x, 3, "", 0);
        due("of nobody", x.of(2, 8), 0);
        due("of(1, 10)", x.of(1, 10), -1);
    }

    private static void tableSeats() {
        says("told, all are without SEAT, then line by line: who has that SEAT has none any more, that PERSON has it, and no other SEAT");
        SaltFigures x = Checks.withPersons(1, 1, 1);
        x.act(1, 2, 9);
        tell(x, 1, "seat 0 person 0;seat 15 person 1;", 2);
        due("of(2, 6)", x.of(2, 6), -1);
        due("look(29)", x.look(29), -1);
        tell(x, 1, "seat 0 person 0;seat 0 person 0;", 2);
        due("the same twice, look(20)", x.look(20), 0);
        tell(x, 1, "seat 0 person 0;seat 15 person 0;", 2);
        due("moved, look(20)", x.look(20), -1);
        due("moved, look(35)", x.look(35), 0);
        tell(x, 1, "seat 0 person 0;seat 0 person 1;", 2);
        due("driven off, of(0, 6)", x.of(0, 6), -1);
        due("driven off, look(20)", x.look(20), 1);
        tell(x, 1, "seat 0 person 0;seat 1 person 1;seat 0 person 1;", 3);
        due("driven off by one who sat, look(21)", x.look(21), -1);
        due("driven off by one who sat, of(0, 6)", x.of(0, 6), -1);
        says("of one not ALIVE: nothing");
        x.act(4, 1, 0);
        tell(x, 1, "seat 3 person 0;seat 3 person 1;seat 4 person 1;", 3);
        due("look(23)", x.look(23), 0);
        due("look(24)", x.look(24), -1);
        due("of(1, 6)", x.of(1, 6), -1);
        tell(x, 1, "", 0);
        due("no line: look(23)", x.look(23), -1);
        due("no line: of(0, 6)", x.of(0, 6), -1);
    }

    private static void heirsOfOne() {
        says("HEIRS (one way; unlike; of several for one the last)");
        SaltFigures x = Checks.withPersons(1, 1, 1);
        for (int p = 0; p < 3; p++) {
            due("of(" + p + ", 10) at first", x.of(p, 10), -1);
        }
        tell(x, 3, "person 0 heir 1;", 1);
        due("of(0, 10)", x.of(0, 10), 1);
        due("of(1, 10), one way", x.of(1, 10), -1);
        tell(x, 3, "person 1 heir 0;person 0 heir 1;", 2);
        due("of(1, 10), both ways", x.of(1, 10), 0);
        due("of(0, 10), both ways", x.of(0, 10), 1);
        tell(x, 3, "person 0 heir 2;person 0 heir 1;person 0 heir 2;", 3);
        due("of(0, 10), the last", x.of(0, 10), 2);
        due("of(1, 10), anew", x.of(1, 10), -1);
    }

    private static void textsStay() {
        says("9: a FAULT (the TEXT stays as it was; the TAPE is empty in each case)");
        SaltFigures x = Checks.withPersons(4, 5);
        tell(x, 0, "throws 77;spills 600;", 2);
        tell(x, 1, "seat 5 person 0;", 1);
        tell(x, 2, "on 3 wet 7;on 1 feast;on 2 die 0;", 3);
        tell(x, 3, "person 0 heir 1;", 1);
        x.days(1);
        String was = Sight.told(x) + x.look(13);
        String[][] spoilt = {{"throws 5;spills;", "throws 5;runs 1/0;", "?", "throws 1;".repeat(17), "throws 1 when (((((((((1=1"},
            {"seat 1 person 1;seat 16 person 1;", "seat 1 person 2;", "?", "seat 6 person 1;".repeat(17), "seat 6 person 1"},
            {"on 3 wet 1;on 4 wet 10;", "?", "on 1 wet 5;".repeat(17), "on 3 wet 1"},
            {"person 1 heir 0;person 1 heir 1;", "?", "person 1 heir 0;".repeat(17), "person 1 heir 0"}};
        for (int k = 0; k < 4; k++) {
            for (String text : spoilt[k]) {
                Checks.put(x, text);
                due("text(" + k + ") of " + text, x.text(k), -1);
                due("a FAULT of " + text, x.fault(0) > 0, true);
                due("the TAPE behind " + text, Sight.tape(x), 0);
                due("all stays behind " + text, (Sight.told(x) + x.look(13)).equals(was), true);
            }
        }
    }
}
