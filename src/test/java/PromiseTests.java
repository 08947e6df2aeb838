import java.util.NoSuchElementException;

/** Each promise by hand-made houses: ordinary inputs, the edges that the document names, wrong inputs. */
public final class PromiseTests {
    private static final int NONE = -1;
    private static final int THROWN = Integer.MIN_VALUE;
    private static int wrong = 0;
    private static int asked = 0;

    private static SetsStayTogether x;

    public static void main(String[] args) {
        newObject();
        signs();
        ends();
        houses();
        houseFaults();
        houseLimits();
        houseIsWholeOrNothing();
        rules();
        ruleFaults();
        rooms();
        things();
        setsAndDoors();
        strengthAndSheet();
        carrying();
        eveningsThatCome();
        daysTold();
        undoing();
        undoingMany();
        judging();
        clumpsAndHeaviest();
        withoutBreaksTies();
        fitsWorthBest();
        nearAndGuest();
        spaceCouldMay();
        togetherFullestSwap();
        sellAndBuild();
        waysAndDoors();
        aims();
        queues();
        journeys();
        keptOnes();
        countsAndRows();
        tooManyArrangements();
        System.out.println(asked + " answers asked, " + wrong + " wrong");
        if (wrong != 0) {
            System.exit(1);
        }
    }

    private static void due(String what, long got, long want) {
        asked++;
        if (got != want) {
            wrong++;
            StackTraceElement at = new Throwable().getStackTrace()[1];
            for (StackTraceElement e : new Throwable().getStackTrace()) {
                if (!e.getMethodName().startsWith("due") && !e.getMethodName().startsWith("row")
                        && !e.getMethodName().startsWith("house")) {
                    at = e;
                    break;
                }
            }
            System.out.println(at + " " + what + ": " + got + ", due is " + want);
        }
    }

    private static void due(String what, boolean got, boolean want) {
        due(what, got ? 1 : 0, want ? 1 : 0);
    }

    private static void rowIs(int... want) {
        due("numbers of the row", x.count(9), want.length);
        for (int i = 0; i < want.length && i < x.count(9); i++) {
            due("row " + i, x.row(i), want[i]);
        }
    }

    /** THE TEXT becomes this one. */
    private static void say(String text) {
        x.end(0);
        for (int i = 0; i < text.length(); i += 4) {
            int v = 0;
            for (int k = i; k < i + 4; k++) {
                v = v << 8 | (k < text.length() ? text.charAt(k) : 'x');
            }
            x.sign(v);
        }
        if (!x.end(text.length())) {
            throw new IllegalStateException("too long for a text: " + text);
        }
    }

    private static int house(String text) {
        say(text);
        return x.house();
    }

    private static int rule(String text) {
        say(text);
        return x.rule();
    }

    private static int day(String text) {
        say(text);
        return x.day();
    }

    private static int aim(String text) {
        say(text);
        return x.aim();
    }

    private static void fresh(String... texts) {
        x = new SetsStayTogether();
        for (String text : texts) {
            int want = 1;
            for (int i = 0; i < text.length(); i++) {
                want += text.charAt(i) == ';' ? 1 : 0;
            }
            due("house " + text, house(text), want);
        }
    }

    private static int room(int room, int what) {
        try {
            return x.room(room, what);
        } catch (NoSuchElementException e) {
            return THROWN;
        }
    }

    private static int thing(int thing, int what) {
        try {
            return x.thing(thing, what);
        } catch (NoSuchElementException e) {
            return THROWN;
        }
    }

    private static int row(int i) {
        try {
            return x.row(i);
        } catch (NoSuchElementException e) {
            return THROWN;
        }
    }

    private static String times(String text, int n) {
        StringBuilder all = new StringBuilder();
        for (int i = 0; i < n; i++) {
            all.append(text);
        }
        return all.toString();
    }

    // ---- promise 1

    private static void newObject() {
        fresh();
        int[] counts = {0, 0, 0, 0, 0, 0, 0, 0, 0, 0, 0, 999, NONE};
        for (int what = 0; what < counts.length; what++) {
            due("count " + what, x.count(what), counts[what]);
        }
        due("room", room(0, 0), THROWN);
        due("thing", thing(0, 0), THROWN);
        due("set", x.set(0), NONE);
        due("worth", x.worth(), 0);
        due("stuck", x.stuck(), 0);
        due("ties", x.ties(), 0);
        due("could", x.could(5, 0), 0);
        due("undo", x.undo(), NONE);
        due("again", x.again(0), false);
        due("fits", x.fits(), 1);
        rowIs();
        due("constant", SetsStayTogether.NONE, -1);
    }

    // ---- promises 2 and 3

    private static void signs() {
        fresh();
        due("highest byte first", x.sign('r' << 24 | '7' << 16 | ';' << 8 | 'r'), 4);
        due("signs", x.count(10), 4);
        due("end", x.end(2), true);
        due("house", x.house(), 1);
        due("size", room(0, 0), 7);
        for (int n = 4; n <= 80; n += 4) {
            due("sign", x.sign(-1), n);
        }
        due("a 21st", x.sign(0), NONE);
        due("still 80", x.count(10), 80);
        due("end", x.end(77), true);
        due("77 and 4", x.sign(0), NONE);
        due("still 77", x.count(10), 77);
        due("end", x.end(76), true);
        due("76 and 4", x.sign(0), 80);
    }

    private static void ends() {
        fresh();
        due("none of none", x.end(0), true);
        due("1 of none", x.end(1), false);
        x.sign('r' << 24 | '1' << 16 | '2' << 8 | '3');
        due("below 0", x.end(-1), false);
        due("5 of 4", x.end(5), false);
        due("still 4", x.count(10), 4);
        due("4 of 4", x.end(4), true);
        due("3 of 4", x.end(3), true);
        due("4 of 3", x.end(4), false);
        due("now 3", x.count(10), 3);
        due("house", x.house(), 1);
        due("the first ones", room(0, 0), 12);
        due("read is empty", x.count(10), 0);
    }

    // ---- promise 4

    private static void houses() {
        fresh("r20;r9;r05;r50");
        due("rooms", x.count(0), 4);
        due("05 is 5", room(2, 0), 5);
        due("a door", house("d1-0=4"), 1);
        due("told anew", house("d0-1=7;d2-3=1"), 2);
        due("width", x.door(0, 1), 7);
        due("doors", x.count(3), 2);
        due("things and a set", house("7,2,3@1;09,9,9@3;sab;sa;sab"), 5);
        due("things", x.count(1), 2);
        due("sets", x.count(2), 3);
        due("bulk", thing(1, 0), 9);
        due("width", thing(0, 1), 2);
        due("weight", thing(0, 2), 3);
        due("room", thing(1, 3), 3);
        due("set", x.set(2), 3);
        due("behind", house("r1;1,1,1@4;sabc;d4-0=9"), 4);
        due("behind it", thing(2, 3), 4);
        due("clump", x.clumps(), 1);
        due("empty", house(""), 0);
    }

    private static void houseFaults() {
        fresh("r5;r6;1,1,1@0;2,2,2@1");
        String[] faults = {
            "x 0", ";r1 0", "r1; 3", "r1;; 3", "r1x 2", "r1r 2", "r 1", "rx 1", "r0 1", "r0x 1", "r0;r1 1", "r00 2",
            "r000 2", "r100 3", "r01x 3", "r1 r2 2", "R1 0",
            "d 1", "dx 1", "d2 1", "d0 2", "d01 2", "d0- 3", "d0-x 3", "d0-0 3", "d0-2 3", "d0-1 4", "d0-11 4", "d0-1= 5",
            "d0-1=0 5", "d0-1=x 5", "d0-1=11 6", "d0-1=1x 6", "r1;d0-3=1 6", "d0-2=1;r1 3",
            "1 1", "0 0", "00 1", "000 1", "0,1,1@0 0", "123 2", "1;1 1", "1, 2", "1,0 2", "1,x 2", "1,1 3", "1,12 3", "1,1, 4",
            "1,1,0 4", "1,1,1 5", "1,1,11 5", "1,1,1@ 6", "1,1,1@2 6", "1,1,1@x 6", "1,1,1@01 7", "99,1,1@9;r5 7",
            "s 1", "s; 1", "sc 1", "s1 1", "sA 1", "saa 2", "sba 2", "sabb 3", "sabc 3", "sab, 3", "sa;sb;s 7", "sab1 3",
            "\u00e9 0", "r1\u0000 2", "sab\u0000 3",
        };
        for (String told : faults) {
            int cut = told.lastIndexOf(' ');
            String text = told.substring(0, cut);
            due("house " + text, house(text), -1 - Integer.parseInt(told.substring(cut + 1)));
            due("read is empty", x.count(10), 0);
            if (x.count(0) != 2 || x.count(1) != 2 || x.count(2) != 0 || x.count(3) != 0) {
                due("nothing came of " + text, 1, 0);
            }
            if (asked % 7 == 0) {
                fresh("r5;r6;1,1,1@0;2,2,2@1");
            }
        }
        fresh("r5;1,1,1@0");
        due("there behind it", house("r2;3,3,3@1;sab;d0-1=2"), 4);
    }

    private static void houseLimits() {
        fresh("r1;r2;r3;r4;r5");
        due("a 7th in a text", house("r6;r7"), -4);
        due("a 7th, ahead of a later fault", house("r6;r0"), -4);
        due("a 6th", house("r6"), 1);
        due("a 7th", house("rx"), -1);
        due("10 things", house(times("1,1,1@5;", 8) + "9,9,9@0"), 9);
        due("a 10th", house("9,9,9@0"), 1);
        due("an 11th", house("sa;0,0,0@0"), -4);
        due("8 sets", house("sa;sb;sc;sd;se;sf;sg;sahij"), 8);
        due("a 9th", house("d0-1=3;s"), -8);
        due("doors go on", house("d0-1=3;d0-1=4;d0-2=1"), 3);
        due("doors", x.count(3), 2);

        fresh("r1;r2");
        String line = "d0-1=3;";
        due("76 signs", house(times(line, 10) + "d1-0=9"), 11);
        due("a width", x.door(0, 1), 9);
        due("75 and an open one", house(times(line, 10) + "d0-1="), -76);
        due("76, open", house(times(line, 10) + "r1;d0-"), -77);
        due("77, could end at 76", house(times(line, 10) + "d1-0=93"), -77);
        due("77, could go on at 76", house(times(line, 10) + "r1;d0-1"), -77);
        due("80, a fault ahead", house(times(line, 10) + "d1-x=9;r1r"), -74);
        due("80, a fault at 75", house(times(line, 10) + "d1-0=x;r1r"), -76);
        due("80, a fault behind 76", house(times(line, 10) + "d1-0=9;x%0"), -77);
        due("a size of 0 is ahead of a fault behind it", house(times(line, 10) + "r1;;r0"), -74);
        due("76 signs", house(times(line, 10) + "r1;r15"), 12);
        due("a size of 0 at 75, cut at 76", house(times(line, 10) + "r01;r05"), -76);
        due("a size of 0 at 75, a letter behind", house(times(line, 10) + "r01;r0r"), -76);
        due("a size of 9 at 75, cut at 76", house(times(line, 10) + "r01;r95"), -77);
        due("two digits, cut behind", house(times(line, 10) + "r1;r055"), -77);
        due("a size of 00 at 74 and 75", house(times(line, 10) + "r1;r00;r5"), -76);
        fresh("r1;r2");
        String rooms = times("r1;", 4);
        due("a bulk of 0 at 75, cut at 76", house(times(line, 9) + rooms + "05,1"), -76);
        due("a bulk of 9 at 75, cut at 76", house(times(line, 9) + rooms + "95,1"), -77);
        due("a bulk of 0 that ends there", house(times(line, 9) + rooms + "0"), -76);
        due("a bulk of 9 that ends there", house(times(line, 9) + rooms + "9"), -77);
        due("nothing came", x.count(0), 2);
    }

    private static void houseIsWholeOrNothing() {
        fresh("r5;r6;d0-1=2;1,1,1@0");
        x.carry(0, 1);
        due("carried", x.count(5), 1);
        due("a late fault", house("r9;d0-1=7;2,2,2@2;sab;saa"), -25);
        due("rooms", x.count(0), 2);
        due("things", x.count(1), 1);
        due("sets", x.count(2), 0);
        due("the door", x.door(0, 1), 2);
        due("can be undone", x.count(8), 1);
        due("empty", house(""), 0);
        due("can be undone", x.count(8), 1);
        due("a door more", house("d0-1=7"), 1);
        due("forgotten", x.count(8), 0);
        due("carried still", x.count(5), 1);
        due("no undo", x.undo(), NONE);
    }

    // ---- promise 5

    private static int valueOf(String text, int thing) {
        due("rule " + text, rule(text), 0);
        return thing(thing, 6);
    }

    private static void rules() {
        fresh("r20;r30;d0-1=4;r9;d1-2=1", "5,2,3@0;7,4,6@1;sab;sb");
        due("none", thing(0, 6), 0);
        String[] told = {
            "i 1", "b 7", "w 4", "g 6", "k 2", "r 1", "z 30", "d 2", "h 1", "5 5", "007 7", "999 999", "999+1 999",
            "0-999-5 -999", "-b -7", "--b 7", "---b -7", "2*-3 -6", "2--3 5", "2-3-4 -5", "20/3/2 3", "-7/2 -3", "7/-2 -3",
            "5/0 0", "5/(b-7) 0", "1+2*3 7", "(1+2)*3 9", "2*3+1 7", "7*3/2 10", "7/2*3 9", "((((5)))) 5", "-(b+1) -8",
            "3<4 1", "4<3 0", "4>3 1", "3>4 0", "3=3 1", "3=4 0", "3<3 0", "3>3 0", "1+1=2 1", "(1<2)<3 1", "(3>2)=(2>1) 1",
            "3<4+1*0 1", "-1<0 1", "1-(2<3)*5 -4", "b*w*g+z 198", "999*999 999", "0-999*999 -999", "999*999*999*999 999",
            "999*999*999 999", "999*999*3 999", "999*999*999*5-0 999", "65*999*99*999/999/99 999", "i*100+r*10+h 111",
        };
        for (String one : told) {
            int cut = one.lastIndexOf(' ');
            String text = one.substring(0, cut);
            if (text.equals("999*999*999*999")) {
                due("as ints", valueOf(text, 1), clamp(999 * 999 * 999 * 999));
            } else if (text.equals("65*999*99*999/999/99")) {
                due("as ints", valueOf(text, 1), clamp(65 * 999 * 99 * 999 / 999 / 99));
            } else if (text.equals("999*999*999*5-0")) {
                due("as ints", valueOf(text, 1), clamp(999 * 999 * 999 * 5));
            } else {
                due("rule " + text, valueOf(text, 1), Integer.parseInt(one.substring(cut + 1)));
            }
            if (x.count(10) != 0) {
                due("read is empty", 1, 0);
            }
            if (asked % 100 < 3) {
                fresh("r20;r30;d0-1=4;r9;d1-2=1", "5,2,3@0;7,4,6@1;sab;sb");
            }
        }
        fresh("r20;r30;d0-1=4;r9;d1-2=1", "5,2,3@0;7,4,6@1;sab;sb");
        due("another thing", valueOf("i*100+k*10+d", 0), 11);
        due("none again", rule(""), 0);
        due("of none", thing(0, 6), 0);
        rule("b");
        due("sum", x.worth(), 12);
        due("a fault leaves it", rule("b+"), -3);
        due("sum", x.worth(), 12);
        due("clamped each", rule("999*9"), 0);
        due("sum is not", x.worth(), 1998);
    }

    private static int clamp(int v) {
        return Math.max(-999, Math.min(999, v));
    }

    private static void ruleFaults() {
        fresh();
        String[] faults = {
            "x 0", "+ 0", "+5 0", "5+ 2", "5++5 2", "5 5 1", "ib 1", "i5 1", "5i 1", "1000 3", "0000 3", "- 1", "-- 2", "() 1",
            ") 0", "(5 2", "5) 1", "(5)) 3", "((((( 4", "(((((5))))) 4", "(1)(2) 3", "5(2) 1", "1<2<3 3", "1<2=3 3", "1=2>3 3",
            "(1<2<3) 4", "1<=2 2", "1< 2", "<1 0", "1<2+3>4 5", "2*/3 2", "2*+3 2", "a 0", "i* 2", "(i+b 4", "(i+b] 4", "I 0",
            "((((1)))+(((2)))) 17", "(1<2)<(3<4)<5 11",
        };
        for (String told : faults) {
            int cut = told.lastIndexOf(' ');
            String text = told.substring(0, cut);
            int p = Integer.parseInt(told.substring(cut + 1));
            if (text.equals("((((1)))+(((2))))")) {
                due("four in one another", rule(text), 0);
            } else {
                due("rule " + text, rule(text), -1 - p);
            }
            if (asked % 40 == 0) {
                fresh();
            }
        }
        fresh();
        String nineteen = times("1+", 19);
        due("39 signs", rule(nineteen + "1"), 0);
        due("40 signs", rule(nineteen + "12"), 0);
        due("40, open", rule(nineteen + "1+"), -41);
        due("41, could end", rule(nineteen + "123"), -41);
        due("41, could go on", rule(nineteen + "1+1"), -41);
        due("a fault at 39", rule(nineteen + "1x1"), -40);
        due("a fault at 40", rule(nineteen + "12x"), -41);
        due("40 minus signs", rule(times("-", 40)), -41);
        due("39 minus signs", rule(times("-", 39) + "5"), 0);
        due("80 signs", rule(times("1+", 40)), -41);
    }

    // ---- promises 6 and 7

    private static void rooms() {
        fresh("r10;r7;r8;d0-1=1;d1-2=9", "6,1,1@1;2,1,1@1;8,1,1@2");
        due("size", room(1, 0), 7);
        due("things", room(1, 1), 3);
        due("none", room(0, 1), 0);
        due("free", room(0, 2), 10);
        due("too full", room(1, 2), -1);
        due("just full", room(2, 2), 0);
        due("doors", room(1, 3), 5);
        due("doors", room(0, 3), 2);
        int[][] bad = {{3, 0}, {-1, 0}, {0, 4}, {0, -1}, {Integer.MAX_VALUE, 1}, {Integer.MIN_VALUE, 1}, {1, Integer.MIN_VALUE}};
        for (int[] b : bad) {
            due("no such", room(b[0], b[1]), THROWN);
        }
    }

    private static void things() {
        fresh("r10;r7", "6,1,4@1;2,9,1@1;8,3,9@0;sac;sc;sb");
        int[][] want = {{6, 1, 4, 1, 1, 0, 0}, {2, 9, 1, 1, 4, 1, 0}, {8, 3, 9, 0, 3, 0, 0}};
        for (int t = 0; t < 3; t++) {
            for (int what = 0; what < 7; what++) {
                due("thing " + t + " " + what, thing(t, what), want[t][what]);
            }
        }
        int[][] bad = {{3, 0}, {-1, 0}, {0, 7}, {0, -1}, {Integer.MAX_VALUE, 1}, {Integer.MIN_VALUE, 1}, {10, 6}};
        for (int[] b : bad) {
            due("no such", thing(b[0], b[1]), THROWN);
        }
        rule("h-2");
        due("where it is", thing(2, 6), -1);
    }

    // ---- promises 8 to 10

    private static void setsAndDoors() {
        fresh("r1;r2;r3;d0-2=4", "1,1,1@0;1,1,1@0;sb;sab");
        due("set", x.set(0), 2);
        due("set", x.set(1), 3);
        due("none such", x.set(2), NONE);
        due("below 0", x.set(-1), NONE);
        due("far", x.set(99), NONE);
        x.breaks(0);
        x.breaks(1);
        due("empty", x.set(1), 0);
        due("door", x.door(2, 0), 4);
        due("no door", x.door(0, 1), -2);
        due("like ones", x.door(1, 1), NONE);
        due("none such", x.door(0, 3), NONE);
        due("none such", x.door(-1, 0), NONE);
        due("made", x.widen(1, 0, 9), 0);
        due("made", x.door(0, 1), 9);
        due("other", x.widen(0, 1, 3), 9);
        due("gone", x.widen(2, 0, 0), 4);
        due("gone", x.door(0, 2), -2);
        due("not there still", x.widen(2, 0, 0), 0);
        int[][] bad = {{0, 0, 5}, {0, 3, 5}, {3, 0, 5}, {-1, 0, 5}, {0, 1, 10}, {0, 1, -1}};
        for (int[] b : bad) {
            due("refused", x.widen(b[0], b[1], b[2]), NONE);
        }
        due("as it was", x.door(0, 1), 3);
        due("doors", x.count(3), 1);
    }

    // ---- promises 11 and 12

    private static void strengthAndSheet() {
        fresh("r9", "1,1,7@0;1,1,8@0;1,1,9@0");
        due("at first", x.strength(1), 999);
        due("then", x.strength(999), 1);
        due("0", x.strength(0), NONE);
        due("1000", x.strength(1000), NONE);
        due("below 0", x.strength(-5), NONE);
        due("as it was", x.count(11), 999);
        due("two ints", x.sheet(2, 2, 3, 4), 3 + 7 + 1);
        due("weight", thing(1, 2), 7);
        due("weight", thing(2, 2), 1);
        due("bytes", x.sheet(0, 3, 250, 9), 1 + 3 + 9);
        due("bytes have a sign", x.sheet(0, 3, 127, 1), 9 + 1 + 1);
        due("a byte's lowest bits", x.sheet(0, 1, 256 + 5, 0), 5 + 2);
        due("shorts", x.sheet(1, 3, 65536 + 4, 1), 4 + 5 + 6);
        due("shorts have a sign", x.sheet(1, 2, 32767, 1), 9 + 1 + 1);
        due("ints go round", x.sheet(2, 2, Integer.MAX_VALUE, 1), 9 + 1 + 1);
        due("entries aside", x.sheet(2, 10, 2, 0), 6);
        due("n of 0", x.sheet(2, 0, 5, 5), 3);
        due("n above 10", x.sheet(2, 11, 5, 5), NONE);
        x.sheet(2, 3, 5, 1);
        due("n below 0", x.sheet(0, -1, 5, 5), -2);
        due("n below 0", x.sheet(1, Integer.MIN_VALUE, 5, 5), -2);
        due("nothing changed", thing(2, 2), 7);
        due("missing, n above 10", x.sheet(3, 11, 5, 5), NONE);
        due("another kind", x.sheet(4, -1, 5, 5), NONE);
        due("another kind", x.sheet(-1, 1, 5, 5), NONE);
        due("nothing changed", thing(0, 2), 5);
        due("missing", x.sheet(3, 2, 5, 5), -3);
        due("all 1", thing(0, 2) + thing(1, 2) + thing(2, 2), 3);
        x.sheet(2, 3, 5, 1);
        due("missing, below 0", x.sheet(3, -4, 5, 5), -3);
        due("all 1", thing(1, 2), 1);
        due("put to 1", x.sheet(2, 3, -7, 0), 3);
        fresh();
        due("no things", x.sheet(2, 4, 4, 4), 0);
    }

    // ---- promise 13

    private static void carrying() {
        fresh("r9;r9;r9;r1;d0-1=3;d1-2=5", "9,4,7@1;9,3,2@0");
        due("2 steps", x.carry(1, 2), 4);
        due("carried", x.count(5), 4);
        due("there", thing(1, 3), 2);
        due("too wide", x.carry(0, 0), -2);
        due("no way", x.carry(0, 3), -2);
        due("no thing", x.carry(2, 0), NONE);
        due("no thing", x.carry(-1, 0), NONE);
        due("no room", x.carry(0, 4), NONE);
        due("no room", x.carry(0, -1), NONE);
        due("full does not matter", x.carry(0, 2), 7);
        due("in one room", room(2, 2), -9);
        due("where it is", x.carry(0, 2), 0);
        x.strength(13);
        due("just so much", x.carry(1, 1), 2);
        due("more", x.carry(1, 0), -3);
        due("stays", thing(1, 3), 1);
        due("stays", x.count(5), 13);
        x.strength(12);
        due("even nothing is more", x.carry(1, 1), -3);
        due("no way is ahead", x.carry(0, 3), -2);
    }

    // ---- promise 14

    private static void eveningsThatCome() {
        fresh("r9;r5;d0-1=9", "5,1,1@0;5,1,1@0;1,1,1@1;sab;sac;sc");
        x.carry(2, 1);
        due("not lawful", x.evening(), 0);
        rowIs(2, 1);
        due("nothing changes", x.count(8), 1);
        x.carry(0, 1);
        due("not lawful", x.evening(), 0);
        rowIs(1, 2);
        due("days", x.count(4), 0);
        due("carried", x.count(5), 1);
        fresh("r9;r5;d0-1=9", "5,1,1@0;4,1,1@1;1,1,1@0;sac");
        x.carry(1, 0);
        due("10 in 9", x.evening(), 0);
        rowIs(0, 1);
        x.carry(1, 1);
        due("lawful", x.evening(), 1);
        rowIs(0, 0);
        due("days", x.count(4), 1);
        due("carried", x.count(5), 0);
        due("forgotten", x.count(8), 0);
        due("once more", x.evening(), 1);
        due("days", x.count(4), 2);
    }

    // ---- promise 15

    private static void daysTold() {
        fresh("r9;r12;d0-1=5", "5,1,2@0;5,1,3@0;1,6,1@0;sab");
        x.carry(0, 1);
        x.carry(0, 0);
        due("carried ahead", x.count(5), 4);
        due("day", day("a>1;b>1"), 2);
        rowIs(1, 5);
        due("days", x.count(4), 1);
        due("carried", x.count(5), 0);
        due("one can't", day("a>0;c>1;b>0"), 1);
        rowIs(NONE, 2);
        due("carried", x.count(5), 2);
        due("to be undone", x.count(8), 1);
        due("not lawful", day("a>0"), 1);
        rowIs(0, 0);
        due("days", x.count(4), 1);
        due("carried still", x.count(5), 2);
        due("an empty one", day(""), 0);
        rowIs(0, 0);
        due("no such room", day("b>7;a>1"), 0);
        rowIs(NONE, 0);
        x.strength(3);
        due("too much", day("b>1;a>1;b>0"), 1);
        rowIs(NONE, 0);
        x.strength(4);
        due("lawful", day("a>1"), 1);
        rowIs(1, 2);
        due("days", x.count(4), 2);
        String[] faults = {
            "x 0", "k>1 0", "`>1 0", "A>1 0", "J>1 0", "a 1", "a1 1", "a> 2", "a>b 2", "a>1; 4", "a>1;k>1 4", "a>12 3",
            "a>1,b>1 3", ";a>1 0", "a>1;;b>1 4", "> 0", "d 1", "j 1", "j1 1", "j> 2", "j>: 2", "a>1;d 5", "j>1; 4",
            "d>7,a>1 3",
        };
        x.evening();
        int days = 3;
        for (String told : faults) {
            int cut = told.lastIndexOf(' ');
            due("day " + told, day(told.substring(0, cut)), -1 - Integer.parseInt(told.substring(cut + 1)));
        }
        rowIs(0, 0);
        due("nothing is done", x.count(4), days);
        due("nothing is done", x.count(5), 0);
        due("read is empty", x.count(10), 0);
        fresh("r9;r9;d0-1=5", "5,1,2@0");
        due("39 signs", day(times("a>1;", 9) + "a>1"), 10);
        due("40 signs", day(times("a>1;", 10)), -41);
        due("41, could go on", day(times("a>1;", 10) + "a"), -41);
        due("41, a fault at 40", day(times("a>1;", 10) + "x"), -41);
        due("43", day(times("a>1;", 10) + "a>1"), -41);
        due("a fault at 39", day(times("a>1;", 9) + "a>1,a>1"), -40);
        fresh();
        due("empty house", day(""), 0);
        rowIs(1, 0);
        due("days", x.count(4), 1);
        due("no things", day("a>0"), 0);
        rowIs(NONE, 0);
        due("no thing's letter", day("k>0"), -1);
        due("no sign behind it", day("j"), -2);
        due("no evening", x.count(4), 1);
        daysOfThingsNotThere();
    }

    private static void daysOfThingsNotThere() {
        fresh("r9;r9;d0-1=5", "5,1,2@0;5,1,3@0");
        due("the first", day("c>1;a>1"), 0);
        rowIs(NONE, 0);
        due("nothing is carried", thing(0, 3), 0);
        due("one ahead of it", day("a>1;j>1;b>1"), 1);
        rowIs(NONE, 2);
        due("carried", thing(0, 3), 1);
        due("not carried", thing(1, 3), 0);
        due("carried", x.count(5), 2);
        due("to be undone", x.count(8), 1);
        due("the last", day("a>1;a>0;c>7"), 2);
        rowIs(NONE, 2);
        due("no evening", x.count(4), 0);
        due("carried", x.count(5), 4);
        due("each letter", day("b>1;a>0;a>0;b>0;b>1;h>0;i>1;j>2;k>3"), -33);
        rowIs(NONE, 2);
        due("nothing is done", x.count(5), 4);
        due("39 signs", day("c>0;d>1;e>2;f>3;g>4;h>5;i>6;j>7;c>8;d>9"), 0);
        rowIs(NONE, 0);
        due("40, one more", day(times("j>1;", 10) + "j>1"), -41);
        due("here now", house("1,1,1@1"), 1);
        due("it is there", day("c>0;b>1"), 2);
        rowIs(1, 4);
        due("evening", x.count(4), 1);
    }

    // ---- promise 16

    private static void undoing() {
        fresh("r9;r9;d0-1=5", "5,1,2@0;5,1,3@1");
        due("none", x.undo(), NONE);
        x.carry(0, 1);
        x.carry(0, 1);
        x.carry(1, 0);
        due("three", x.count(8), 3);
        due("carried", x.count(5), 5);
        due("undo", x.undo(), 2);
        due("back", thing(1, 3), 1);
        due("carried", x.count(5), 2);
        due("where it is", x.undo(), 1);
        due("carried", x.count(5), 2);
        due("undo", x.undo(), 0);
        due("back", thing(0, 3), 0);
        due("carried", x.count(5), 0);
        due("none left", x.undo(), NONE);
        for (int i = 0; i < 25; i++) {
            x.carry(0, (i + 1) % 2);
        }
        due("twenty", x.count(8), 20);
        due("carried", x.count(5), 50);
        for (int left = 19; left >= 0; left--) {
            due("undo", x.undo(), left);
        }
        due("no more", x.undo(), NONE);
        due("five carried", x.count(5), 10);
        due("where it was", thing(0, 3), 1);
        x.carry(0, 0);
        x.keep(0);
        x.carry(1, 0);
        due("kept ones are not there", x.again(1), false);
        due("not forgotten", x.count(8), 2);
        due("again", x.again(0), true);
        due("forgotten", x.undo(), NONE);
        day("a>1;b>0;a>7");
        due("of a day", x.count(8), 2);
        x.sheet(3, 0, 0, 0);
        due("undo", x.undo(), 1);
        due("carried as ahead of it", x.count(5), 14);
    }

    private static void undoingMany() {
        fresh("r9;r9;r9;d0-1=5;d1-2=5", "5,1,2@0;5,1,3@1;5,1,5@2");
        int[][] before = new int[50][];
        for (int i = 0; i < 50; i++) {
            before[i] = new int[] {thing(0, 3), thing(1, 3), thing(2, 3), x.count(5)};
            x.carry(i * i % 3, (i * 7 + i / 3) % 3);
            due("kept", x.count(8), Math.min(20, i + 1));
        }
        for (int i = 49; i >= 30; i--) {
            due("undo", x.undo(), i - 30);
            for (int t = 0; t < 3; t++) {
                due("where it was ahead of " + i, thing(t, 3), before[i][t]);
            }
            due("carried ahead of " + i, x.count(5), before[i][3]);
        }
        due("no more", x.undo(), NONE);
    }

    // ---- promise 17

    private static void judging() {
        fresh("r9;r12;r1;d0-1=5", "5,1,2@0;5,1,3@0;1,6,1@1;sab");
        int a1 = 1;
        int b1 = 11;
        int c0 = 20;
        due("none", x.judge(0, -1), -2);
        rowIs(0, 0);
        due("two", x.judge(2, a1 | b1 << 7), -2);
        rowIs(5, 1);
        due("one of two", x.judge(1, a1 | b1 << 7), -2);
        rowIs(2, 0);
        due("the second can't", x.judge(3, a1 | c0 << 7 | b1 << 14), 1);
        rowIs(2, 0);
        due("four", x.judge(4, a1 | b1 << 7 | 10 << 14), -2);
        rowIs(10, 0);
        due("no room", x.judge(1, 3), 0);
        due("no thing", x.judge(1, 31), 0);
        due("127", x.judge(4, -1), 0);
        rowIs(0, 0);
        due("highest bits aside", x.judge(1, a1 | 1 << 31), -2);
        rowIs(2, 0);
        due("nothing changes", thing(0, 3), 0);
        due("nothing changes", x.count(5) + x.count(8), 0);
        x.strength(4);
        due("too much", x.judge(2, a1 | b1 << 7), 1);
        rowIs(2, 0);
        x.carry(0, 1);
        due("carried counts", x.judge(1, b1), 0);
        rowIs(0, 0);
        due("n of 5", x.judge(5, 0), NONE);
        due("n of -1", x.judge(-1, 0), NONE);
        rowIs(0, 0);
        x.strength(5);
        due("just so much", x.judge(1, b1), -2);
        rowIs(3, 1);
    }

    // ---- promises 18 to 22

    private static void clumpsAndHeaviest() {
        fresh("r9;r12;r6", "3,1,1@0;5,1,1@0;3,1,1@1;5,1,1@0;2,1,1@0;6,1,1@0");
        due("alone", x.clumps(), 6);
        rowIs(1, 2, 4, 8, 16, 32);
        due("heaviest", x.heaviest(), 5);
        rowIs(6, 7);
        due("sets", house("sbe;sce;sd"), 3);
        due("clumps", x.clumps(), 4);
        rowIs(1, 22, 8, 32);
        due("by their least", thing(5, 5), 3);
        due("hangs", thing(4, 5), 1);
        due("heaviest", x.heaviest(), 1);
        rowIs(10, 2);
        due("equal", house("4,1,1@0;sfg"), 2);
        due("the first", x.heaviest(), 1);
        due("too small all", house("3,1,1@0;sbh"), 2);
        due("heaviest", x.heaviest(), 1);
        rowIs(13, 0);
        fresh("r5");
        due("no things", x.heaviest(), -2);
        due("none", x.clumps(), 0);
        rowIs();
    }

    private static void withoutBreaksTies() {
        fresh("r9", times("1,1,1@0;", 5) + "1,1,1@0", "sab;sbc;sd;sdef;sde");
        due("clumps", x.clumps(), 2);
        due("without b", x.without(1), 3);
        rowIs(0);
        due("without d", x.without(3), 2);
        rowIs(4);
        due("without a", x.without(0), 2);
        due("none such", x.without(6), NONE);
        due("none such", x.without(-1), NONE);
        rowIs(0);
        due("ties", x.ties(), 1 | 2 | 8);
        due("breaks", x.breaks(1), 4);
        due("set", x.set(1), 4);
        due("ties", x.ties(), 8);
        due("breaks", x.breaks(3), 5);
        due("empty set", x.set(2), 0);
        due("none such", x.breaks(6), NONE);
        due("none such", x.breaks(-1), NONE);
        due("once more", x.breaks(3), 5);
        due("without a", x.without(0), 4);
        rowIs(1 | 4);
        due("a round", house("sab;sbc;sac"), 3);
        due("ties", x.ties(), 8);
    }

    // ---- promises 23 to 25

    private static void fitsWorthBest() {
        fresh("r5;r6", "3,1,1@0;3,1,1@1;2,1,1@0;sac");
        due("fits", x.fits(), 2);
        rowIs(0, 1, 0);
        due("without doors", x.near(), 0);
        due("best", x.best(), 1);
        rowIs(0, 0, 1, 0);
        rule("b*r-5");
        due("worth", x.worth(), -5 - 2 - 5);
        due("best", x.best(), 1);
        rowIs(5 * 1 - 15, 1, 0, 1);
        rule("h");
        due("best", x.best(), 1);
        rowIs(3, 0, 1, 0);
        rule("1");
        due("as good ones", x.best(), 1);
        rowIs(3, 0, 1, 0);
        x.clumps();
        due("too big", house("6,1,1@0;2,1,1@1"), 2);
        due("none", x.best(), -2);
        rowIs(5, 2);
        due("none", x.fits(), 0);
        rowIs();
        fresh("r5;r9");
        due("no things", x.fits(), 1);
        rowIs();
        due("no things", x.best(), 1);
        rowIs(0);
    }

    // ---- promises 26 and 27

    private static void nearAndGuest() {
        fresh("r5;r6;r4;d0-1=2;d1-2=2", "3,2,1@0;3,1,4@0;2,2,1@0");
        due("near", x.near(), 1);
        rowIs(1, 0, 0);
        due("free 6 in 1", x.guest(1, 6), 2);
        rowIs(2, 0, 0);
        due("free 4 in 2", x.guest(2, 4), 1);
        rowIs(1, 0, 0);
        due("free 3 in 2", x.guest(2, 3), 1);
        due("free 3 in 0", x.guest(0, 3), 5);
        rowIs(1, 1, 0);
        due("free 6 in 0", x.guest(0, 6), -2);
        due("no such room", x.guest(3, 0), NONE);
        due("no such room", x.guest(-1, 0), NONE);
        due("below 0", x.guest(0, -1), NONE);
        due("above 99", x.guest(0, 100), NONE);
        due("99", x.guest(0, 99), -2);
        rowIs(1, 1, 0);
        x.widen(0, 1, 1);
        due("too wide to go", x.near(), 4);
        rowIs(0, 1, 0);
        x.widen(0, 1, 0);
        due("none is come to", x.near(), -2);
        x.widen(0, 2, 9);
        x.widen(0, 1, 9);
        due("as little", x.near(), 1);
        rowIs(1, 0, 0);
        x.sheet(2, 3, 1, 0);
        due("as little, of all the least row", x.near(), 1);
        rowIs(0, 1, 0);
    }

    private static void spaceCouldMay() {
        fresh("r9;r5;r9", "5,1,1@0;4,1,1@1;2,1,1@0;sac");
        due("fits", x.fits(), 4);
        due("space", x.space(), 9);
        rowIs(0, 2, 1, 2);
        due("could 5", x.could(5, 0), 7);
        due("could 9", x.could(9, 0), 5);
        due("could 10", x.could(10, 0), 0);
        due("could 2 in it", x.could(2, 1), 5);
        due("could 3 in it", x.could(3, 1), 0);
        due("bulk 0", x.could(0, 0), NONE);
        due("bulk 100", x.could(100, 0), NONE);
        due("bulk 99", x.could(99, 0), 0);
        due("no such set", x.could(1, 2), NONE);
        due("no such set", x.could(1, -1), NONE);
        due("may", x.may(0), 5);
        rowIs(2);
        due("may", x.may(1), 7);
        rowIs(2);
        due("none such", x.may(2), NONE);
        due("none such", x.may(-1), NONE);
        due("more", house("9,1,1@0;sb"), 2);
        due("space", x.space(), 2);
        rowIs(0, 0, 1, 0, 2);
        due("both sets", x.could(1, 3), 0);
        due("second set", x.could(1, 2), 2);
        due("none", house("9,1,1@0"), 1);
        due("space", x.space(), -2);
        due("may", x.may(0), 0);
        rowIs(0);
        fresh("r3;r3");
        due("the first", x.space(), 3);
        rowIs(0);
        fresh();
        due("no rooms", x.space(), -2);
    }

    // ---- promises 31 to 33

    private static void togetherFullestSwap() {
        fresh("r9;r5;r9;d0-1=2;d1-2=2", "5,1,1@0;4,1,3@1;2,2,1@0;sac");
        due("together", x.together(0, 2), 4);
        rowIs(4);
        due("never", x.together(0, 1), 0);
        rowIs(4);
        due("like", x.together(1, 1), NONE);
        due("none such", x.together(0, 3), NONE);
        due("none such", x.together(-1, 0), NONE);
        due("fullest", x.fullest(0), 7);
        rowIs(0, 1, 0);
        due("fullest", x.fullest(1), 4);
        rowIs(0, 1, 0);
        due("fullest", x.fullest(2), 7);
        rowIs(2, 0, 2);
        due("none such", x.fullest(3), NONE);
        due("none such", x.fullest(-1), NONE);
        due("swap", x.swap(0, 1), 0);
        rowIs(5);
        due("swap", x.swap(0, 2), 1);
        rowIs(4);
        due("swap", x.swap(2, 1), 1);
        rowIs(3);
        x.widen(1, 2, 1);
        due("too wide", x.swap(2, 0), 1);
        rowIs(NONE);
        due("like", x.swap(1, 1), NONE);
        due("none such", x.swap(0, 3), NONE);
        due("none such", x.swap(-1, 0), NONE);
        rowIs(NONE);
        x.carry(2, 1);
        due("parted", x.swap(0, 1), 0);
        house("9,1,1@0;9,1,1@0");
        due("none", x.fullest(0), -2);
        due("none", x.together(0, 2), 0);
        rowIs(0);
    }

    // ---- promises 34 and 35

    private static void sellAndBuild() {
        fresh("r5;r6", "3,1,1@0;4,1,1@1;6,1,1@0;1,1,1@0");
        due("sell", x.sell(), 1);
        rowIs(1);
        due("build", x.build(), 3);
        rowIs(0);
        fresh("r5;r6", "3,1,1@0;3,1,1@1;3,1,1@0;3,1,1@0;5,1,1@0;sad");
        due("as few, least bulk", x.sell(), 2);
        rowIs(6);
        due("build", x.build(), 6);
        rowIs(0);
        fresh("r5;r6", "3,1,1@0;3,1,1@1");
        due("nothing", x.sell(), 0);
        rowIs(0);
        due("nothing", x.build(), 0);
        rowIs(NONE);
        fresh("r5;r6", "3,1,1@0;7,1,1@1;3,1,1@1;sac");
        due("two rooms too small", x.build(), 2);
        rowIs(0);
        fresh("r6;r5", "3,1,1@0;7,1,1@1;3,1,1@1;sac");
        due("another room", x.build(), 2);
        rowIs(1);
        fresh("r1", "99,1,1@0");
        due("98", x.build(), 98);
        fresh("r1", "99,1,1@0;1,1,1@0");
        due("99", x.build(), 99);
        rowIs(0);
        due("100", house("1,1,1@0"), 1);
        due("100", x.build(), -2);
        rowIs(0);
        due("sell the great", x.sell(), 2);
        rowIs(3);
        fresh("r1;r1", "2,1,1@0;2,1,1@0");
        due("two do not fit", x.build(), 3);
        rowIs(0);
        due("sell all", x.sell(), 2);
        rowIs(3);
        fresh();
        due("no rooms", x.build(), -2);
        due("nothing", x.sell(), 0);
    }

    // ---- promises 36 to 39

    private static void waysAndDoors() {
        fresh("r9;r9;r9;r9;r9;r9;d0-2=5;d2-4=5;d0-1=4;d1-4=3;d4-3=2", "1,1,1@0;1,4,1@0;1,6,1@0");
        due("way", x.way(0, 4), 2);
        rowIs(1, 4);
        due("way", x.way(1, 4), 2);
        rowIs(2, 4);
        due("way", x.way(0, 3), 3);
        rowIs(1, 4, 3);
        due("no way", x.way(1, 3), -2);
        rowIs(1, 4, 3);
        due("there", x.way(1, 0), 0);
        rowIs();
        due("none such", x.way(3, 0), NONE);
        due("none such", x.way(0, 6), NONE);
        due("none such", x.way(0, -1), NONE);
        due("widest", x.widest(0, 4), 5);
        due("widest", x.widest(1, 2), 4);
        due("widest", x.widest(3, 0), 2);
        due("none", x.widest(0, 5), 0);
        due("same", x.widest(5, 5), 9);
        due("none such", x.widest(6, 6), NONE);
        due("none such", x.widest(0, -1), NONE);
        due("stuck", x.stuck(), 7);
        due("hinge 3", x.hinge(3), 3);
        rowIs(4, 2);
        due("hinge 0", x.hinge(0), 0);
        rowIs(1, 3);
        due("hinge 2", x.hinge(2), 0);
        rowIs(2, 3);
        due("hinge 5", x.hinge(5), 0);
        rowIs(1, 0);
        due("none such", x.hinge(6), NONE);
        due("as they were", x.door(0, 2), 5);
        x.widen(4, 5, 2);
        due("stuck", x.stuck(), 6);
        fresh("r9;r9", "1,1,1@0");
        due("no doors", x.hinge(0), -2);
        due("no such room", x.hinge(2), NONE);
        due("stuck", x.stuck(), 1);
        x.widen(0, 1, 1);
        due("stuck", x.stuck(), 0);
    }

    // ---- promises 40 and 41

    private static void aims() {
        fresh("r9;r9;r9;d0-1=5;d1-2=4", "5,5,2@0;5,4,3@2;1,1,1@1;sbc");
        due("no aim", x.apart(), -4);
        due("aim", aim("101"), 3);
        due("apart", x.apart(), 2 + 6);
        rowIs(0);
        due("aim", aim("111"), 3);
        due("apart", x.apart(), 2 + 3);
        rowIs(0);
        due("aim", aim("011"), 3);
        due("apart", x.apart(), 3);
        rowIs(1);
        due("no way", aim("200"), 3);
        due("apart", x.apart(), -2);
        rowIs(1);
        String[] faults = {"0 1", "01 2", "x 0", "03 1", "0x1 1", "0111 3", "011x 3", "0311 1", "01; 2", "a11 0"};
        for (String told : faults) {
            int cut = told.lastIndexOf(' ');
            due("aim " + told, aim(told.substring(0, cut)), -1 - Integer.parseInt(told.substring(cut + 1)));
        }
        due("read is empty", x.count(10), 0);
        due("still the aim", x.apart(), -2);
        aim("011");
        house("r9");
        due("rooms do not matter", x.apart(), 3);
        house("1,1,1@0");
        due("things came", x.apart(), -4);
        due("things came", x.queue(), -4);
        due("things came", x.evenings(), -4);
        due("things came", x.weakest(), -4);
        due("aim", aim("0110"), 4);
        due("apart", x.apart(), 3);
        due("none", aim(""), 0);
        due("none", x.apart(), -4);
        fresh("r9");
        due("no things", aim("0"), -1);
        due("no things", aim(""), 0);
        due("no aim", x.apart(), -4);
    }

    // ---- promise 42

    private static void queues() {
        fresh("r5;r5;r5;d0-1=5;d1-2=5", "5,1,1@0;5,1,1@1");
        due("no aim", x.queue(), -4);
        aim("10");
        due("changing places", x.queue(), -2);
        aim("12");
        due("one behind the other", x.queue(), 2);
        rowIs(1, 0);
        aim("01");
        due("none", x.queue(), 0);
        rowIs();
        fresh("r9;r9;r5;d0-1=3;d1-2=5", "5,1,1@0;2,1,1@1;2,4,1@1;sab");
        aim("111");
        due("now parts", x.queue(), -5);
        x.carry(1, 0);
        due("now does not", x.queue(), 1);
        rowIs(0);
        aim("101");
        due("the aim parts", x.queue(), -5);
        aim("110");
        due("no way", x.queue(), -2);
        aim("112");
        due("all orders", x.queue(), 2);
        rowIs(0, 1);
        aim("222");
        due("too full", x.queue(), -2);
        fresh("r5", "4,1,1@0;4,1,1@0");
        aim("00");
        due("unlawful, but none goes", x.queue(), 0);
        rowIs();
    }

    // ---- promises 43 and 44

    private static void journeys() {
        fresh("r9;r9;r9;d0-1=9;d1-2=9", "5,1,2@0;5,1,3@1");
        aim("10");
        due("at once", x.evenings(), 1);
        rowIs(5, 1, 0);
        due("weakest", x.weakest(), 4);
        rowIs(3);
        x.strength(4);
        due("evenings", x.evenings(), 3);
        rowIs(9, 2, 1);
        x.strength(3);
        due("never", x.evenings(), -2);
        rowIs(9, 2, 1);
        due("weakest", x.weakest(), 4);
        aim("01");
        due("it is", x.evenings(), 0);
        rowIs(0);
        due("it is", x.weakest(), 0);
        rowIs(0);
        aim("11");
        due("not lawful", x.evenings(), -2);
        due("not lawful", x.weakest(), -2);
        x.strength(999);
        x.carry(0, 1);
        due("as it is, unlawful", x.evenings(), 0);
        due("as it is, unlawful", x.weakest(), 0);
        aim("10");
        due("from an unlawful one", x.evenings(), 1);
        rowIs(3, 1, 0);
        x.widen(0, 1, 0);
        due("no way", x.evenings(), -2);
        due("no way", x.weakest(), -2);
        rowIs(3, 1, 0);
        fresh("r9;r9;r9;r9;d0-1=9", times("1,1,1@0;", 4) + "1,1,1@1");
        aim("00000");
        due("more than 300", x.evenings(), -3);
        due("more than 300", x.weakest(), -3);
        aim("00001");
        due("as it is", x.evenings(), 0);
        due("as it is", x.weakest(), 0);
    }

    // ---- promises 45 and 46

    private static void keptOnes() {
        fresh("r9;r9;d0-1=9", "5,1,2@0;4,1,3@1");
        due("nothing kept", x.again(0), false);
        x.evening();
        x.carry(0, 1);
        due("keep", x.keep(1), true);
        due("others", x.keep(2), false);
        due("others", x.keep(-1), false);
        due("nothing kept", x.again(0), false);
        due("others", x.again(2), false);
        due("others", x.again(-1), false);
        x.carry(1, 0);
        x.evening();
        x.widen(0, 1, 3);
        x.strength(77);
        due("again", x.again(1), true);
        due("days", x.count(4), 1);
        due("carried", x.count(5), 2);
        due("there", thing(0, 3), 1);
        due("there", thing(1, 3), 1);
        due("doors stay", x.door(0, 1), 3);
        due("strength stays", x.count(11), 77);
        due("no undo", x.count(8), 0);
        due("again still", x.again(1), true);
        x.keep(0);
        house("sab");
        due("sets do not matter", x.again(1), true);
        house("r1");
        due("rooms came", x.again(1), false);
        due("keep", x.keep(1), true);
        house("1,1,1@0");
        due("things came", x.again(1), false);
        x.carry(2, 1);
        due("refused, so not forgotten", x.again(1) ? -9 : x.count(8), 1);
    }

    // ---- promises 47 and 48

    private static void countsAndRows() {
        fresh("r9;r5;r1;d0-1=9;d1-2=1", "5,1,2@0;4,1,3@1;9,1,1@1;sab;sbc");
        x.strength(50);
        x.carry(0, 0);
        x.carry(1, 0);
        x.sign(0);
        x.clumps();
        int[] want = {3, 3, 2, 2, 0, 3, 2, 2, 2, 1, 4, 50};
        for (int what = 0; what < want.length; what++) {
            due("count " + what, x.count(what), want[what]);
        }
        due("another", x.count(12), NONE);
        due("another", x.count(-1), NONE);
        due("another", x.count(Integer.MIN_VALUE), NONE);
        due("row", row(0), 7);
        due("none such", row(1), THROWN);
        due("none such", row(-1), THROWN);
        due("none such", row(Integer.MAX_VALUE), THROWN);
        x.may(7);
        x.near();
        x.hinge(9);
        rowIs(7);
        x.evening();
        rowIs(2, 2);
    }

    private static void tooManyArrangements() {
        fresh("r9;r9;r9;r9;r9;r9", times("1,1,1@0;", 4) + "1,1,1@1");
        x.clumps();
        due("7776", x.fits(), 7776);
        due("one more", house("1,1,1@0"), 1);
        x.evening();
        int[] answers = {
            x.fits(), x.best(), x.near(), x.guest(0, 0), x.space(), x.could(1, 0), x.may(0), x.together(0, 1), x.fullest(0),
            x.sell(), x.build(),
        };
        for (int i = 0; i < answers.length; i++) {
            due("too many " + i, answers[i], -3);
        }
        rowIs(0, 0);
        due("refused ahead", x.guest(6, 0), NONE);
        due("refused ahead", x.could(0, 0), NONE);
        due("refused ahead", x.may(6), NONE);
        due("refused ahead", x.together(0, 0), NONE);
        due("refused ahead", x.fullest(6), NONE);
        aim("000000");
        due("too many", x.evenings(), -3);
        due("too many", x.weakest(), -3);
        due("queue is not asked so", x.queue(), -2);
        due("swap is not asked so", x.swap(0, 1), 1);
        due("a set hangs them together", house("sef"), 1);
        due("7776", x.fits(), 7776);
        fresh("r99;r99;r99", times("1,1,1@0;", 8) + "1,1,1@1");
        due("19683", x.fits(), 19683);
        due("a tenth", house("1,1,1@0"), 1);
        due("59049", x.fits(), -3);
        fresh("r99", times("1,1,1@0;", 8) + "1,1,1@0", "1,1,1@0");
        due("one room", x.fits(), 1);
        rowIs(0, 0, 0, 0, 0, 0, 0, 0, 0, 0);
    }
}
