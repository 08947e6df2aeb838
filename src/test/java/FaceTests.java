import java.lang.reflect.Constructor;
import java.lang.reflect.Field;
import java.lang.reflect.Method;
import java.lang.reflect.Modifier;
import java.util.ArrayList;
import java.util.Collections;
import java.util.List;
import java.util.NoSuchElementException;

/** The public face is the document's; no call of any kind throws but where it says so; refused calls change nothing. */
public final class FaceTests {
    private static final String[] FACE = {
        "int sign(int)", "boolean end(int)", "int house()", "int rule()", "int room(int,int)!", "int thing(int,int)!", "int set(int)",
        "int door(int,int)", "int widen(int,int,int)", "int strength(int)", "int sheet(int,int,int,int)", "int carry(int,int)",
        "int evening()", "int day()", "int undo()", "int judge(int,int)", "int clumps()", "int heaviest()", "int without(int)",
        "int breaks(int)", "int ties()", "int fits()", "int worth()", "int best()", "int near()", "int guest(int,int)", "int space()",
        "int could(int,int)", "int may(int)", "int together(int,int)", "int fullest(int)", "int swap(int,int)", "int sell()",
        "int build()", "int way(int,int)", "int widest(int,int)", "int stuck()", "int hinge(int)", "int aim()", "int apart()",
        "int queue()", "int evenings()", "int weakest()", "boolean keep(int)", "boolean again(int)", "int count(int)", "int row(int)!",
    };
    private static final String[] TEXTS = {
        "r9;r12;r7", "r20;r15", "r5", "d0-1=5;d1-2=2", "d0-1=9;d1-2=9;d0-2=1", "d2-3=4;d3-4=6;d5-0=3", "8,4,2@0", "3,1,1@0;6,2,3@1",
        "5,1,1@2;1,1,1@0;1,1,9@1", "sab;sbc", "sd", "sacf", "se;sb", "b*r-3", "i*100+b-w*g+k+r*d+z-h", "((((b))))<-z/(r-1)", "a>1;b>0",
        "a>0;c>2;b>1", "d>9", "a>1", "00", "001", "1020", "11111", "012012", "1", "", "x", "r0", "saa", "a>", "i<b<w", "9",
    };
    private static int wrong = 0;
    private static long seed = 5;
    private static long calls = 0;

    public static void main(String[] args) throws Exception {
        face();
        for (int run = 0; run < 400; run++) {
            randomRun(run);
        }
        System.out.println(calls + " calls, " + wrong + " wrong");
        if (wrong != 0) {
            System.exit(1);
        }
    }

    private static void bad(String what) {
        if (wrong++ < 30) {
            System.out.println(what);
        }
    }

    private static void face() throws Exception {
        Class<?> c = SetsStayTogether.class;
        if (!Modifier.isPublic(c.getModifiers()) || !Modifier.isFinal(c.getModifiers())) {
            bad("the class is not public and final");
        }
        List<String> have = new ArrayList<>();
        for (Method m : c.getDeclaredMethods()) {
            StringBuilder line = new StringBuilder(m.getReturnType() + " " + m.getName() + "(");
            for (int i = 0; i < m.getParameterCount(); i++) {
                line.append(i == 0 ? "" : ",").append(m.getParameterTypes()[i]);
            }
            line.append(")");
            for (Class<?> e : m.getExceptionTypes()) {
                line.append(e == NoSuchElementException.class ? "!" : "?");
            }
            if (Modifier.isPublic(m.getModifiers())) {
                have.add(line.toString());
            } else if (!Modifier.isPrivate(m.getModifiers())) {
                bad("not of the face: " + line);
            }
        }
        List<String> want = new ArrayList<>(List.of(FACE));
        Collections.sort(have);
        Collections.sort(want);
        if (!have.equals(want)) {
            bad("face " + have + ", due is " + want);
        }
        for (Field f : c.getDeclaredFields()) {
            if (!Modifier.isPrivate(f.getModifiers()) && !f.getName().equals("NONE")) {
                bad("not of the face: " + f);
            }
        }
        Constructor<?>[] makers = c.getDeclaredConstructors();
        if (makers.length != 1 || makers[0].getParameterCount() != 0 || !Modifier.isPublic(makers[0].getModifiers())) {
            bad("constructors");
        }
        for (Class<?> inner : c.getDeclaredClasses()) {
            checkInner(inner);
        }
    }

    private static void checkInner(Class<?> inner) {
        if (!Modifier.isStatic(inner.getModifiers()) || Modifier.isPublic(inner.getModifiers())) {
            bad("inner class " + inner);
        }
        for (Method m : inner.getDeclaredMethods()) {
            for (String line : FACE) {
                if (line.contains(" " + m.getName() + "(")) {
                    bad(m + " bears the name of a public one");
                }
            }
        }
    }

    private static int any(int bound) {
        seed = seed * 6364136223846793005L + 1442695040888963407L;
        return (int) ((seed >>> 33) % bound);
    }

    private static int number() {
        switch (any(12)) {
            case 0:
                return Integer.MIN_VALUE + any(3);
            case 1:
                return Integer.MAX_VALUE - any(3);
            case 2:
                return any(2000) - 1000;
            case 3:
                return any(40) - 20;
            case 4:
                return (int) (((long) any(1 << 30)) << 3);
            default:
                return any(7);
        }
    }

    private static void say(SetsStayTogether x, String text) {
        x.end(0);
        for (int i = 0; i < text.length(); i += 4) {
            int v = 0;
            for (int k = i; k < i + 4; k++) {
                v = v << 8 | (k < text.length() ? text.charAt(k) : 0);
            }
            x.sign(v);
        }
        x.end(text.length());
    }

    /** Longer than 512 calls at times: even then nothing may throw. */
    private static void randomRun(int run) throws Exception {
        SetsStayTogether x = new SetsStayTogether();
        SetsStayTogether twin = new SetsStayTogether();
        Method[] methods = SetsStayTogether.class.getDeclaredMethods();
        java.util.Arrays.sort(methods, (a, b) -> a.getName().compareTo(b.getName()));
        List<Method> open = new ArrayList<>();
        for (Method m : methods) {
            if (Modifier.isPublic(m.getModifiers())) {
                open.add(m);
            }
        }
        for (int n = 0; n < 300; n++) {
            if (any(3) == 0) {
                String text = TEXTS[any(TEXTS.length)];
                say(x, text);
                say(twin, text);
            }
            Method m = open.get(any(3) == 0 ? named(open) : any(open.size()));
            Object[] with = new Object[m.getParameterCount()];
            for (int i = 0; i < with.length; i++) {
                with[i] = number();
            }
            String before = state(x);
            String got = call(x, m, with);
            if (!got.equals(call(twin, m, with))) {
                bad("not the same again: " + m + " " + List.of(with));
            }
            if (got.equals("false") && !before.equals(state(x))) {
                bad("refused, but changed: " + m + " " + List.of(with));
            }
            if (got.equals("-1") && !m.getName().equals("worth") && !before.equals(state(x)) && !readsText(m)) {
                bad("refused, but changed: " + m + " " + List.of(with) + " " + before + " " + state(x));
            }
        }
    }

    private static boolean readsText(Method m) {
        return List.of("house", "rule", "day", "aim").contains(m.getName());
    }

    private static int named(List<Method> open) {
        String[] often = {"house", "house", "rule", "aim", "day", "carry", "evenings", "weakest", "queue"};
        String name = often[any(often.length)];
        for (int i = 0; i < open.size(); i++) {
            if (open.get(i).getName().equals(name)) {
                return i;
            }
        }
        return 0;
    }

    private static String call(SetsStayTogether x, Method m, Object[] with) throws Exception {
        calls++;
        try {
            return String.valueOf(m.invoke(x, with));
        } catch (java.lang.reflect.InvocationTargetException e) {
            boolean may = e.getCause().getClass() == NoSuchElementException.class && m.getExceptionTypes().length == 1;
            if (!may) {
                bad(m + " " + List.of(with) + " throws " + e.getCause());
            }
            return "thrown";
        }
    }

    private static String state(SetsStayTogether x) {
        StringBuilder all = new StringBuilder();
        for (int what = 0; what < 12; what++) {
            all.append(x.count(what)).append(' ');
        }
        for (int i = 0; i < x.count(9); i++) {
            all.append(x.row(i)).append(' ');
        }
        for (int r = 0; r < x.count(0); r++) {
            all.append(x.room(r, 0)).append(' ').append(x.room(r, 1)).append(' ').append(x.room(r, 3)).append(' ');
        }
        for (int t = 0; t < x.count(1); t++) {
            for (int what = 0; what < 7; what++) {
                all.append(x.thing(t, what)).append(' ');
            }
        }
        return all.toString();
    }
}
