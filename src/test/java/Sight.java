/** All that can be seen of an object, told as a text, so that two sights can be compared. */
final class Sight {
    private Sight() {
    }

    static String of(SaltFigures x) {
        return told(x) + " undo " + x.look(13) + " fault " + x.fault(0) + " " + x.fault(1) + " tape " + tape(x);
    }

    /** What THE IMAGE holds. */
    static String told(SaltFigures x) {
        StringBuilder s = new StringBuilder();
        port(x, s);
        thought(x, s);
        return s.toString();
    }

    private static void add(StringBuilder s, long answer) {
        s.append(answer).append(' ');
    }

    private static void port(SaltFigures x, StringBuilder s) {
        for (int what = -1; what <= 36; what++) {
            if (what != 13) {
                add(s, x.look(what));
            }
        }
        for (int p = 0; p < x.look(0); p++) {
            for (int what = 0; what <= 10; what++) {
                add(s, x.of(p, what));
            }
        }
        for (int i = 0; i < x.look(7); i++) {
            for (int what = 0; what < 4; what++) {
                add(s, x.book(i, what));
            }
        }
        for (int what = 0; what < 4; what++) {
            add(s, x.goes(1, what));
            add(s, x.goes(60, what));
        }
    }

    private static void thought(SaltFigures x, StringBuilder s) {
        add(s, x.week(2000, 3, 1, 2));
        for (int i = 0; i < 512; i++) {
            add(s, x.side(i / 64, i / 8 % 8, i % 8));
        }
        for (int i = -1; i <= 360; i++) {
            add(s, x.weighs(i));
        }
        for (int i = 0; i < 21; i++) {
            add(s, x.told(i == 0 ? 0 : 99 + i));
        }
        for (int what = 0; what < 2; what++) {
            add(s, x.hull(what));
            add(s, x.shadow(what));
            for (int i = 0; i < 8; i++) {
                add(s, x.light(60, i, what));
            }
        }
        add(s, x.light(60, 0, 2));
        add(s, x.drips(-1));
        add(s, x.drips(10000));
        for (int l = 1; l <= 21; l++) {
            add(s, x.voyage(l, 0));
        }
        for (int what = 0; what <= 8; what++) {
            add(s, x.heaped(what));
        }
    }

    /** How many bytes the TAPE has: from above the first end() that is taken leaves all as it is. */
    static int tape(SaltFigures x) {
        int n = 401;
        while (n > 0 && !x.end(n)) {
            n--;
        }
        return n;
    }
}
