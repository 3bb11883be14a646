import java.util.NoSuchElementException;

/** What the tests of the project share: answers that are due, and texts put sign by sign. */
final class Check {
    interface Call {
        long answer();
    }

    private static int wrong = 0;
    private static int asked = 0;

    private Check() {
    }

    static void due(String what, long got, long want) {
        asked++;
        if (got != want) {
            wrong++;
            System.out.println(what + " answered " + got + ", due is " + want);
        }
    }

    static void due(String what, boolean got, boolean want) {
        due(what, got ? 1 : 0, want ? 1 : 0);
    }

    static void noSuch(String what, Call call) {
        asked++;
        try {
            long got = call.answer();
            wrong++;
            System.out.println(what + " answered " + got + ", due is a NoSuchElementException");
        } catch (NoSuchElementException e) {
            if (e.getClass() != NoSuchElementException.class) {
                wrong++;
                System.out.println(what + " threw " + e);
            }
        }
    }

    /** THE TEXT becomes text. */
    static void text(AirMail x, String text) {
        x.end(0);
        for (int i = 0; i < text.length(); i += 4) {
            int v = 0;
            for (int k = i; k < i + 4; k++) {
                v = v << 8 | (k < text.length() ? text.charAt(k) & 255 : 0);
            }
            x.sign(v);
        }
        due("end(" + text.length() + ") of " + text, x.end(text.length()), true);
    }

    static int force(AirMail x, int kind, int from, String text) {
        text(x, text);
        return x.force(kind, from);
    }

    static void row(String what, AirMail x, int... numbers) {
        due(what + ": numbers of the row", x.count(10), numbers.length);
        for (int i = 0; i < numbers.length && i < x.count(10); i++) {
            due(what + ": row(" + i + ")", x.row(i), numbers[i]);
        }
        noSuch(what + ": row behind its end", () -> x.row(numbers.length));
    }

    static void finish() {
        System.out.println(asked + " answers, " + wrong + " not as due");
        if (wrong != 0) {
            System.exit(1);
        }
    }
}
