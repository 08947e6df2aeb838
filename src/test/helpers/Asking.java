import java.util.NoSuchElementException;
import java.util.function.IntSupplier;
import java.util.function.IntUnaryOperator;

/** What the tests by hand share: an object, texts for it, its state, and the sentence of the document that is asked about. */
abstract class Asking {
    static final int NONE = SetsStayTogether.NONE;
    static final int THROWN = Integer.MIN_VALUE;
    static SetsStayTogether x;

    private static String sentence = "";
    private static int asked = 0;
    private static int wrong = 0;

    /** The sentence that the next answers would break. */
    static void says(String words) {
        sentence = words;
    }

    static void is(String call, long got, long want) {
        asked++;
        if (got != want) {
            wrong++;
            System.out.println("[" + sentence + "] " + call + ": " + got + ", due is " + want + " " + line());
        }
    }

    static void is(String call, boolean got, boolean want) {
        is(call, got ? 1 : 0, want ? 1 : 0);
    }

    private static String line() {
        for (StackTraceElement e : new Throwable().getStackTrace()) {
            if (!e.getClassName().equals("Asking")) {
                return "(" + e.getFileName() + ":" + e.getLineNumber() + ")";
            }
        }
        return "";
    }

    /** Ends the program: with 1, if an answer was not the one that is due. */
    static void finish() {
        System.out.println(asked + " answers asked, " + wrong + " wrong");
        if (wrong != 0) {
            System.exit(1);
        }
    }

    static void rowIs(int... want) {
        is("numbers of the row", x.count(9), want.length);
        for (int i = 0; i < want.length; i++) {
            is("row " + i, row(i), want[i]);
        }
    }

    /** A call with an answer that tells why there is none: THE TEXT and all else stay. */
    static void stays(String call, int want, IntSupplier ask) {
        String before = state() + x.count(10);
        is(call, ask.getAsInt(), want);
        is(call + " changes nothing", before.equals(state() + x.count(10)), true);
    }

    static void refused(String call, IntSupplier ask) {
        stays(call, NONE, ask);
    }

    /** Each of these numbers is refused. */
    static void refusedAll(String call, IntUnaryOperator ask, int... numbers) {
        String before = state() + x.count(10);
        for (int n : numbers) {
            is(call + " of " + n, ask.applyAsInt(n), NONE);
        }
        is(call + " changes nothing", before.equals(state() + x.count(10)), true);
    }

    /** A text with a fault at p: it is emptied, and nothing else changes. */
    static void fault(String text, int p, IntSupplier reads) {
        say(text);
        String before = state();
        is(text, reads.getAsInt(), -1 - p);
        is(text + " changes nothing", before.equals(state()), true);
        is(text + " is emptied", x.count(10), 0);
    }

    /**
     * All that can be seen without a question that tells a ROW; THE TEXT aside. It asks so much that some objects are
     * used for more than 512 calls here: the document leaves free what they answer then, this class answers as before.
     */
    static String state() {
        StringBuilder all = new StringBuilder();
        for (int what = 0; what < 12; what++) {
            all.append(what == 10 ? 0 : x.count(what)).append(' ');
        }
        for (int i = 0; i < x.count(9); i++) {
            all.append(x.row(i)).append(' ');
        }
        for (int r = 0; r < x.count(0); r++) {
            for (int what = 0; what < 4; what++) {
                all.append(x.room(r, what)).append(' ');
            }
            for (int o = 0; o < r; o++) {
                all.append(x.door(r, o)).append(' ');
            }
        }
        for (int t = 0; t < x.count(1); t++) {
            for (int what = 0; what < 7; what++) {
                all.append(x.thing(t, what)).append(' ');
            }
        }
        for (int s = 0; s < x.count(2); s++) {
            all.append(x.set(s)).append(' ');
        }
        return all.toString();
    }

    /** THE TEXT becomes this one. */
    static void say(String text) {
        x.end(0);
        for (int i = 0; i < text.length(); i += 4) {
            int v = 0;
            for (int k = i; k < i + 4; k++) {
                v = v << 8 | (k < text.length() ? text.charAt(k) : 'x');
            }
            x.sign(v);
        }
        if (!x.end(text.length())) {
            throw new IllegalStateException("too long for a text: " + text);
        }
    }

    static int house(String text) {
        say(text);
        return x.house();
    }

    static int rule(String text) {
        say(text);
        return x.rule();
    }

    static int day(String text) {
        say(text);
        return x.day();
    }

    static int aim(String text) {
        say(text);
        return x.aim();
    }

    /** A new object with a house of these texts. */
    static void fresh(String... texts) {
        x = new SetsStayTogether();
        for (String text : texts) {
            int lines = 1;
            for (int i = 0; i < text.length(); i++) {
                lines += text.charAt(i) == ';' ? 1 : 0;
            }
            is("house " + text, house(text), lines);
        }
    }

    static int room(int room, int what) {
        try {
            return x.room(room, what);
        } catch (NoSuchElementException e) {
            return THROWN;
        }
    }

    static int thing(int thing, int what) {
        try {
            return x.thing(thing, what);
        } catch (NoSuchElementException e) {
            return THROWN;
        }
    }

    static int row(int i) {
        try {
            return x.row(i);
        } catch (NoSuchElementException e) {
            return THROWN;
        }
    }

    static String times(String text, int n) {
        return text.repeat(n);
    }
}
