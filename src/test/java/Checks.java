/** Counts the answers that are not as due; a test ends with finish(). */
final class Checks {
    private static int asked = 0;
    private static int wrong = 0;
    private static int sentences = 0;
    private static String sentence = "";

    /** A call that answers with a number. */
    interface Call {
        long made();
    }

    /** A call that answers whether. */
    interface Question {
        boolean made();
    }

    private Checks() {
    }

    /** The sentence of the document that the calls from here on are about; it stands ahead of what is not as due. */
    static void says(String words) {
        sentence = "\"" + words + "\" ";
        sentences++;
    }

    static void due(String call, long got, long want) {
        asked++;
        if (got != want) {
            wrong++;
            if (wrong <= 40) {
                System.out.println(sentence + call + " answered " + got + ", due is " + want);
            }
        }
    }

    /** A call that is refused: what it answers, and that all stays as it was. */
    static void refused(SaltFigures x, String call, Call made, long want) {
        String was = Sight.of(x);
        due(call, made.made(), want);
        due(call + " changes nothing", Sight.of(x).equals(was), true);
    }

    static void refused(SaltFigures x, String call, Question made) {
        refused(x, call, () -> made.made() ? 1 : 0, 0);
    }

    static void due(String call, boolean got, boolean want) {
        due(call, got ? 1 : 0, want ? 1 : 0);
    }

    static boolean anyWrong() {
        return wrong > 0;
    }

    static void finish() {
        String about = sentences == 0 ? "" : ", of " + sentences + " sentences";
        System.out.println(wrong == 0 ? asked + " answers are as due" + about : wrong + " of " + asked + " answers are not as due");
        if (wrong > 0 || asked == 0) {
            System.exit(1);
        }
    }

    /** Puts a text on the TAPE, which must be empty. */
    static void put(SaltFigures x, String text) {
        byte[] bytes = new byte[(text.length() + 19) / 20 * 20];
        for (int i = 0; i < bytes.length; i++) {
            bytes[i] = (byte) (i < text.length() ? text.charAt(i) : 'x');
        }
        for (int i = 0; i < bytes.length; i += 20) {
            x.feed(number(bytes, i), number(bytes, i + 4), number(bytes, i + 8), number(bytes, i + 12), number(bytes, i + 16));
        }
        x.end(text.length());
    }

    private static int number(byte[] b, int i) {
        return (b[i] & 255) << 24 | (b[i + 1] & 255) << 16 | (b[i + 2] & 255) << 8 | b[i + 3] & 255;
    }

    /** Tells a text that has no FAULT. */
    static void tell(SaltFigures x, int k, String text, int lines) {
        put(x, text);
        due("text " + k + ": " + text, x.text(k), lines);
        due("fault(0) of " + text, x.fault(0), 0);
        due("fault(1) of " + text, x.fault(1), -1);
    }

    /** Tells a text that has that FAULT. */
    static void refuse(SaltFigures x, int k, String text, int fault, int place) {
        put(x, text);
        due("text " + k + ": " + text, x.text(k), -1);
        due("fault(0) of " + text, x.fault(0), fault);
        due("fault(1) of " + text, x.fault(1), place);
        due("the TAPE behind " + text, x.end(1), false);
    }

    static SaltFigures withPersons(int... beliefs) {
        SaltFigures x = new SaltFigures();
        for (int i = 0; i < beliefs.length; i++) {
            due("person(" + beliefs[i] + ")", x.person(beliefs[i]), i);
        }
        return x;
    }
}
