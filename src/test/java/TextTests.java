import java.util.regex.Matcher;
import java.util.regex.Pattern;

/** Random texts: where the first sign is that can't stand, answered a second time by patterns that a text could still come to match. */
public final class TextTests extends Asking {
    private static final int FINE = -1;
    private static final String NEVER = "[\uffff]";
    private static final String INCHES = "(?:[1-9][0-9]?+|0[1-9])";
    private static final Pattern RULE = Pattern.compile(expression(4));
    private static final Pattern DAY = Pattern.compile("[a-j]>[0-9](?:;[a-j]>[0-9])*+");
    private static long seed = 77;

    private static int rooms;
    private static int things;
    private static int sets;

    public static void main(String[] args) {
        for (int n = 0; n < 3000; n++) {
            askHouse();
            askDay();
        }
        for (int n = 0; n < 600; n++) {
            askRule();
            askAim();
        }
        finish();
    }

    private static int any(int bound) {
        seed = seed * 6364136223846793005L + 1442695040888963407L;
        return (int) ((seed >>> 33) % bound);
    }

    private static String one(String... texts) {
        return texts[any(texts.length)];
    }

    private static String sign(String signs) {
        return "" + signs.charAt(any(signs.length()));
    }

    /** Now and then another sign, one less, one more, an end that comes early. */
    private static String spoilt(String text, String signs) {
        String now = text.length() > 80 ? text.substring(0, 80) : text;
        for (int n = any(4) - 1; n > 0 && !now.isEmpty(); n--) {
            int p = any(now.length());
            int kind = any(4);
            if (kind == 0) {
                now = now.substring(0, p);
            } else {
                now = now.substring(0, p) + (kind == 1 ? "" : sign(signs)) + now.substring(kind == 3 ? p : p + 1);
            }
        }
        return now.length() > 80 ? now.substring(0, 80) : now;
    }

    private static boolean canStand(Matcher m) {
        return m.matches() || m.hitEnd();
    }

    /** By the plain sense of the words: the first sign with which no text that is right can begin. */
    private static int faultBy(Pattern right, String text, int limit) {
        int end = Math.min(text.length(), limit);
        for (int p = 0; p < end; p++) {
            if (!canStand(right.matcher(text.substring(0, p + 1)))) {
                return p;
            }
        }
        if (text.length() > limit) {
            return limit;
        }
        return text.isEmpty() || right.matcher(text).matches() ? FINE : end;
    }

    private static void dueAt(String text, int got, int fault, int fine) {
        is(text, got, fault == FINE ? fine : -1 - fault);
        is("emptied", x.count(10), 0);
    }

    // ---- THE HOUSE

    private static String roomsBut(int not) {
        StringBuilder all = new StringBuilder();
        for (int r = 0; r < rooms; r++) {
            all.append(r == not ? "" : "" + r);
        }
        return all.length() == 0 ? NEVER : "[" + all + "]";
    }

    private static String rising() {
        StringBuilder all = new StringBuilder(NEVER);
        for (int first = 0; first < things; first++) {
            all.append('|').append((char) ('a' + first));
            for (int t = first + 1; t < things; t++) {
                all.append((char) ('a' + t)).append("?+");
            }
        }
        return "(?:" + all + ")";
    }

    private static Pattern line() {
        StringBuilder all = new StringBuilder("d(?:" + NEVER);
        for (int r = 0; r < rooms; r++) {
            all.append("|" + r + "-" + roomsBut(r) + "=[1-9]");
        }
        all.append(")");
        all.append(rooms < 6 ? "|r" + INCHES : "");
        all.append(things < 10 ? "|" + INCHES + ",[1-9],[1-9]@" + roomsBut(-1) : "");
        all.append(sets < 8 ? "|s" + rising() : "");
        return Pattern.compile(all.toString());
    }

    /** "a SIZE or BULK of 0, as far as it stands in the first 76: at its last digit" */
    private static boolean isZero(String line) {
        return things < 10 && line.equals("0") || rooms < 6 && line.equals("r0");
    }

    private static int houseFault(String text) {
        int end = Math.min(text.length(), 76);
        int from = 0;
        for (int p = 0; p < end; p++) {
            String line = text.substring(from, p);
            if (text.charAt(p) == ';' && line().matcher(line).matches()) {
                comes(line);
                from = p + 1;
            } else if (!canStand(line().matcher(text.substring(from, p + 1)))) {
                return isZero(line) && !Character.isDigit(text.charAt(p)) ? p - 1 : p;
            }
        }
        String last = text.substring(from, end);
        if (text.isEmpty() || text.length() <= 76 && line().matcher(last).matches()) {
            return FINE;
        }
        return isZero(last) ? end - 1 : end;
    }

    private static void comes(String line) {
        char kind = line.charAt(0);
        rooms += kind == 'r' ? 1 : 0;
        sets += kind == 's' ? 1 : 0;
        things += Character.isDigit(kind) ? 1 : 0;
    }

    private static String anyLine() {
        String digits = "0123456789";
        switch (any(9)) {
            case 0:
            case 1:
                return "r" + one("", "0", "1") + sign("0123456789");
            case 2:
            case 3:
                return "d" + sign("0112345") + "-" + sign("0012345") + "=" + sign(any(20) == 0 ? digits : "1359");
            case 4:
                return "s" + one("a", "b", "ab", "c", "abc", "ac", "bd", "ad", "cj", "j", "abcdefghij", "dgi");
            default:
                return one("", "0", "1", "9") + sign("0123456789") + "," + sign("1234567899") + "," + sign("12345") + "@" + sign("0011234");
        }
    }

    private static void freshHouse() {
        fresh();
        rooms = any(7);
        things = rooms == 0 ? 0 : any(3) > 0 ? any(5) : any(11);
        sets = things == 0 ? 0 : any(4) > 0 ? 0 : any(9);
        for (int r = 0; r < rooms; r++) {
            house("r9");
        }
        for (int t = 0; t < things; t++) {
            house("1,1,1@0");
        }
        for (int s = 0; s < sets; s++) {
            house("sa");
        }
    }

    private static void askHouse() {
        freshHouse();
        String[] before = {state(), state()};
        StringBuilder all = new StringBuilder();
        int least = any(3) == 0 ? 60 : any(50);
        for (int n = 0; n < 20 && (all.length() < least || all.length() == 0); n++) {
            all.append(n == 0 ? "" : ";").append(n < 4 && any(2) == 0 && rooms < 3 ? "r12" : anyLine());
        }
        String text = spoilt(all.toString(), "0123456789;;rds-=,@abcx");
        int lines = text.isEmpty() ? 0 : 1 + text.length() - text.replace(";", "").length();
        says("4: THE HOUSE; " + rooms + " ROOMS, " + things + " THINGS, " + sets + " SETS are there");
        int fault = houseFault(text);
        dueAt(text, house(text), fault, lines);
        if (fault != FINE || lines == 0) {
            is("nothing came", before[0].equals(state()), true);
        } else {
            comes(text.substring(text.lastIndexOf(';') + 1));
            is("ROOMS, THINGS, SETS came", x.count(0) * 1000 + x.count(1) * 10 + x.count(2), rooms * 1000 + things * 10 + sets);
        }
    }

    // ---- THE RULE

    private static String expression(int parentheses) {
        String thing = "(?:[0-9]{1,3}+|[ibwgkrzdh]" + (parentheses == 0 ? "" : "|\\(" + expression(parentheses - 1) + "\\)") + ")";
        String product = "-*+" + thing + "(?:[*/]-*+" + thing + ")*+";
        String sum = product + "(?:[+-]" + product + ")*+";
        return sum + "(?:[<>=]" + sum + ")?+";
    }

    private static void askRule() {
        fresh();
        StringBuilder all = new StringBuilder();
        int open = 0;
        int least = any(3) == 0 ? 34 : any(20);
        boolean more = true;
        while (more) {
            while (any(3) == 0) {
                boolean minus = any(2) == 0;
                all.append(minus ? "-" : "(");
                open += minus ? 0 : 1;
            }
            all.append(any(2) == 0 ? sign("ibwgkrzdh") : "" + any(any(10) == 0 ? 2000 : 100));
            while (open > 0 && any(3) == 0) {
                all.append(")");
                open--;
            }
            more = all.length() < least;
            all.append(more ? sign(any(6) == 0 ? "<>=" : "+-*/") : ")".repeat(open));
        }
        String text = spoilt(all.toString(), "0123456789ibwgkrzdh()()+-*/<>=;ax");
        says("5: THE RULE");
        dueAt(text, rule(text), faultBy(RULE, text, 40), 0);
    }

    // ---- a DAY, THE AIM

    private static void askDay() {
        fresh();
        StringBuilder all = new StringBuilder();
        for (int n = any(13); n >= 0; n--) {
            all.append(sign("abcdefghij")).append('>').append(any(10)).append(n == 0 ? "" : ";");
        }
        String text = spoilt(all.toString(), "0123456789abjk>>;;x");
        says("15: a DAY");
        dueAt(text, day(text), faultBy(DAY, text, 40), 0);
        is("no THING is there", x.count(4), text.isEmpty() ? 1 : 0);
    }

    private static void askAim() {
        freshHouse();
        StringBuilder all = new StringBuilder();
        for (int n = 0; n < things + any(3) - 1; n++) {
            all.append(any(12) == 0 ? any(10) : any(Math.max(1, rooms)));
        }
        String text = spoilt(all.toString(), "0123456789;x");
        says("40: THE AIM; " + rooms + " ROOMS, " + things + " THINGS are there");
        Pattern right = Pattern.compile(roomsBut(-1) + "{" + things + "}");
        dueAt(text, aim(text), faultBy(right, text, things), text.length());
    }
}
