/** Each promise by hand-made houses: ordinary inputs, the edges that the document names, wrong inputs. */
public final class PromiseTests extends Asking {
    public static void main(String[] args) {
        newObject();
        signs();
        ends();
        houses();
        houseFaults();
        houseLimits();
        houseIsWholeOrNothing();
        rules();
        ruleFaults();
        rooms();
        things();
        setsAndDoors();
        strengthAndSheet();
        carrying();
        eveningsThatCome();
        daysTold();
        undoing();
        undoingMany();
        judging();
        clumpsAndHeaviest();
        withoutBreaksTies();
        fitsWorthBest();
        nearAndGuest();
        spaceCouldMay();
        togetherFullestSwap();
        sellAndBuild();
        waysAndDoors();
        aims();
        queues();
        journeys();
        keptOnes();
        countsAndRows();
        tooManyArrangements();
        finish();
    }

    // ---- promise 1

    private static void newObject() {
        fresh();
        int[] counts = {0, 0, 0, 0, 0, 0, 0, 0, 0, 0, 0, 999, NONE};
        for (int what = 0; what < counts.length; what++) {
            is("count " + what, x.count(what), counts[what]);
        }
        is("room", room(0, 0), THROWN);
        is("thing", thing(0, 0), THROWN);
        is("set", x.set(0), NONE);
        is("worth", x.worth(), 0);
        is("stuck", x.stuck(), 0);
        is("ties", x.ties(), 0);
        is("could", x.could(5, 0), 0);
        is("undo", x.undo(), NONE);
        is("again", x.again(0), false);
        is("fits", x.fits(), 1);
        rowIs();
        is("constant", SetsStayTogether.NONE, -1);
    }

    // ---- promises 2 and 3

    private static void signs() {
        fresh();
        is("highest byte first", x.sign('r' << 24 | '7' << 16 | ';' << 8 | 'r'), 4);
        is("signs", x.count(10), 4);
        is("end", x.end(2), true);
        is("house", x.house(), 1);
        is("size", room(0, 0), 7);
        for (int n = 4; n <= 80; n += 4) {
            is("sign", x.sign(-1), n);
        }
        is("a 21st", x.sign(0), NONE);
        is("still 80", x.count(10), 80);
        is("end", x.end(77), true);
        is("77 and 4", x.sign(0), NONE);
        is("still 77", x.count(10), 77);
        is("end", x.end(76), true);
        is("76 and 4", x.sign(0), 80);
    }

    private static void ends() {
        fresh();
        is("none of none", x.end(0), true);
        is("1 of none", x.end(1), false);
        x.sign('r' << 24 | '1' << 16 | '2' << 8 | '3');
        is("below 0", x.end(-1), false);
        is("5 of 4", x.end(5), false);
        is("still 4", x.count(10), 4);
        is("4 of 4", x.end(4), true);
        is("3 of 4", x.end(3), true);
        is("4 of 3", x.end(4), false);
        is("now 3", x.count(10), 3);
        is("house", x.house(), 1);
        is("the first ones", room(0, 0), 12);
        is("read is empty", x.count(10), 0);
    }

    // ---- promise 4

    private static void houses() {
        fresh("r20;r9;r05;r50");
        is("rooms", x.count(0), 4);
        is("05 is 5", room(2, 0), 5);
        is("a door", house("d1-0=4"), 1);
        is("told anew", house("d0-1=7;d2-3=1"), 2);
        is("width", x.door(0, 1), 7);
        is("doors", x.count(3), 2);
        is("things and a set", house("7,2,3@1;09,9,9@3;sab;sa;sab"), 5);
        is("things", x.count(1), 2);
        is("sets", x.count(2), 3);
        is("bulk", thing(1, 0), 9);
        is("width", thing(0, 1), 2);
        is("weight", thing(0, 2), 3);
        is("room", thing(1, 3), 3);
        is("set", x.set(2), 3);
        is("behind", house("r1;1,1,1@4;sabc;d4-0=9"), 4);
        is("behind it", thing(2, 3), 4);
        is("clump", x.clumps(), 1);
        is("empty", house(""), 0);
    }

    private static void houseFaults() {
        String[] faults = {
            "x 0", ";r1 0", "r1; 3", "r1;; 3", "r1x 2", "r1r 2", "r 1", "rx 1", "r0 1", "r0x 1", "r0;r1 1", "r00 2",
            "r000 2", "r100 3", "r01x 3", "r1 r2 2", "R1 0",
            "d 1", "dx 1", "d2 1", "d0 2", "d01 2", "d0- 3", "d0-x 3", "d0-0 3", "d0-2 3", "d0-1 4", "d0-11 4", "d0-1= 5",
            "d0-1=0 5", "d0-1=x 5", "d0-1=11 6", "d0-1=1x 6", "r1;d0-3=1 6", "d0-2=1;r1 3",
            "1 1", "0 0", "00 1", "000 1", "0,1,1@0 0", "123 2", "1;1 1", "1, 2", "1,0 2", "1,x 2", "1,1 3", "1,12 3", "1,1, 4",
            "1,1,0 4", "1,1,1 5", "1,1,11 5", "1,1,1@ 6", "1,1,1@2 6", "1,1,1@x 6", "1,1,1@01 7", "99,1,1@9;r5 7",
            "s 1", "s; 1", "sc 1", "s1 1", "sA 1", "saa 2", "sba 2", "sabb 3", "sabc 3", "sab, 3", "sa;sb;s 7", "sab1 3",
            "\u00e9 0", "r1\u0000 2", "sab\u0000 3",
        };
        for (String told : faults) {
            int cut = told.lastIndexOf(' ');
            String text = told.substring(0, cut);
            fresh("r5;r6;1,1,1@0;2,2,2@1");
            fault(text, Integer.parseInt(told.substring(cut + 1)), x::house);
        }
        fresh("r5;1,1,1@0");
        is("there behind it", house("r2;3,3,3@1;sab;d0-1=2"), 4);
    }

    private static void houseLimits() {
        fresh("r1;r2;r3;r4;r5");
        is("a 7th in a text", house("r6;r7"), -4);
        is("a 7th, ahead of a later fault", house("r6;r0"), -4);
        is("a 6th", house("r6"), 1);
        is("a 7th", house("rx"), -1);
        is("10 things", house(times("1,1,1@5;", 8) + "9,9,9@0"), 9);
        is("a 10th", house("9,9,9@0"), 1);
        is("an 11th", house("sa;0,0,0@0"), -4);
        is("8 sets", house("sa;sb;sc;sd;se;sf;sg;sahij"), 8);
        is("a 9th", house("d0-1=3;s"), -8);
        is("doors go on", house("d0-1=3;d0-1=4;d0-2=1"), 3);
        is("doors", x.count(3), 2);

        fresh("r1;r2");
        String line = "d0-1=3;";
        is("76 signs", house(times(line, 10) + "d1-0=9"), 11);
        is("a width", x.door(0, 1), 9);
        is("75 and an open one", house(times(line, 10) + "d0-1="), -76);
        is("76, open", house(times(line, 10) + "r1;d0-"), -77);
        is("77, could end at 76", house(times(line, 10) + "d1-0=93"), -77);
        is("77, could go on at 76", house(times(line, 10) + "r1;d0-1"), -77);
        is("80, a fault ahead", house(times(line, 10) + "d1-x=9;r1r"), -74);
        is("80, a fault at 75", house(times(line, 10) + "d1-0=x;r1r"), -76);
        is("80, a fault behind 76", house(times(line, 10) + "d1-0=9;x%0"), -77);
        is("a size of 0 is ahead of a fault behind it", house(times(line, 10) + "r1;;r0"), -74);
        is("76 signs", house(times(line, 10) + "r1;r15"), 12);
        is("a size of 0 at 75, cut at 76", house(times(line, 10) + "r01;r05"), -76);
        is("a size of 0 at 75, a letter behind", house(times(line, 10) + "r01;r0r"), -76);
        is("a size of 9 at 75, cut at 76", house(times(line, 10) + "r01;r95"), -77);
        is("two digits, cut behind", house(times(line, 10) + "r1;r055"), -77);
        is("a size of 00 at 74 and 75", house(times(line, 10) + "r1;r00;r5"), -76);
        fresh("r1;r2");
        String rooms = times("r1;", 4);
        is("a bulk of 0 at 75, cut at 76", house(times(line, 9) + rooms + "05,1"), -76);
        is("a bulk of 9 at 75, cut at 76", house(times(line, 9) + rooms + "95,1"), -77);
        is("a bulk of 0 that ends there", house(times(line, 9) + rooms + "0"), -76);
        is("a bulk of 9 that ends there", house(times(line, 9) + rooms + "9"), -77);
        is("nothing came", x.count(0), 2);
    }

    private static void houseIsWholeOrNothing() {
        fresh("r5;r6;d0-1=2;1,1,1@0");
        x.carry(0, 1);
        is("carried", x.count(5), 1);
        is("a late fault", house("r9;d0-1=7;2,2,2@2;sab;saa"), -25);
        is("rooms", x.count(0), 2);
        is("things", x.count(1), 1);
        is("sets", x.count(2), 0);
        is("the door", x.door(0, 1), 2);
        is("can be undone", x.count(8), 1);
        is("empty", house(""), 0);
        is("can be undone", x.count(8), 1);
        is("a door more", house("d0-1=7"), 1);
        is("forgotten", x.count(8), 0);
        is("carried still", x.count(5), 1);
        is("no undo", x.undo(), NONE);
    }

    // ---- promise 5

    private static int valueOf(String text, int thing) {
        is("rule " + text, rule(text), 0);
        return thing(thing, 6);
    }

    private static void rules() {
        fresh("r20;r30;d0-1=4;r9;d1-2=1", "5,2,3@0;7,4,6@1;sab;sb");
        is("none", thing(0, 6), 0);
        String[] told = {
            "i 1", "b 7", "w 4", "g 6", "k 2", "r 1", "z 30", "d 2", "h 1", "5 5", "007 7", "999 999", "999+1 999",
            "0-999-5 -999", "-b -7", "--b 7", "---b -7", "2*-3 -6", "2--3 5", "2-3-4 -5", "20/3/2 3", "-7/2 -3", "7/-2 -3",
            "5/0 0", "5/(b-7) 0", "1+2*3 7", "(1+2)*3 9", "2*3+1 7", "7*3/2 10", "7/2*3 9", "((((5)))) 5", "-(b+1) -8",
            "3<4 1", "4<3 0", "4>3 1", "3>4 0", "3=3 1", "3=4 0", "3<3 0", "3>3 0", "1+1=2 1", "(1<2)<3 1", "(3>2)=(2>1) 1",
            "3<4+1*0 1", "-1<0 1", "1-(2<3)*5 -4", "b*w*g+z 198", "999*999 999", "0-999*999 -999",
            "999*999*999 999", "999*999*3 999", "i*100+r*10+h 111",
        };
        for (String one : told) {
            int cut = one.lastIndexOf(' ');
            String text = one.substring(0, cut);
            is("rule " + text, valueOf(text, 1), Integer.parseInt(one.substring(cut + 1)));
            is("read is empty", x.count(10), 0);
        }
        is("as ints", valueOf("999*999*999*999", 1), clamp(999 * 999 * 999 * 999));
        is("as ints", valueOf("999*999*999*5-0", 1), clamp(999 * 999 * 999 * 5));
        is("as ints", valueOf("65*999*99*999/999/99", 1), clamp(65 * 999 * 99 * 999 / 999 / 99));
        fresh("r20;r30;d0-1=4;r9;d1-2=1", "5,2,3@0;7,4,6@1;sab;sb");
        is("another thing", valueOf("i*100+k*10+d", 0), 11);
        is("none again", rule(""), 0);
        is("of none", thing(0, 6), 0);
        rule("b");
        is("sum", x.worth(), 12);
        is("a fault leaves it", rule("b+"), -3);
        is("sum", x.worth(), 12);
        is("clamped each", rule("999*9"), 0);
        is("sum is not", x.worth(), 1998);
    }

    private static int clamp(int v) {
        return Math.max(-999, Math.min(999, v));
    }

    private static void ruleFaults() {
        String[] faults = {
            "x 0", "+ 0", "+5 0", "5+ 2", "5++5 2", "5 5 1", "ib 1", "i5 1", "5i 1", "1000 3", "0000 3", "- 1", "-- 2", "() 1",
            ") 0", "(5 2", "5) 1", "(5)) 3", "((((( 4", "(((((5))))) 4", "(1)(2) 3", "5(2) 1", "1<2<3 3", "1<2=3 3", "1=2>3 3",
            "(1<2<3) 4", "1<=2 2", "1< 2", "<1 0", "1<2+3>4 5", "2*/3 2", "2*+3 2", "a 0", "i* 2", "(i+b 4", "(i+b] 4", "I 0",
            "(1<2)<(3<4)<5 11",
        };
        for (String told : faults) {
            int cut = told.lastIndexOf(' ');
            fresh();
            fault(told.substring(0, cut), Integer.parseInt(told.substring(cut + 1)), x::rule);
        }
        fresh();
        is("four in one another", rule("((((1)))+(((2))))"), 0);
        String nineteen = times("1+", 19);
        is("39 signs", rule(nineteen + "1"), 0);
        is("40 signs", rule(nineteen + "12"), 0);
        is("40, open", rule(nineteen + "1+"), -41);
        is("41, could end", rule(nineteen + "123"), -41);
        is("41, could go on", rule(nineteen + "1+1"), -41);
        is("a fault at 39", rule(nineteen + "1x1"), -40);
        is("a fault at 40", rule(nineteen + "12x"), -41);
        is("40 minus signs", rule(times("-", 40)), -41);
        is("39 minus signs", rule(times("-", 39) + "5"), 0);
        is("80 signs", rule(times("1+", 40)), -41);
    }

    // ---- promises 6 and 7

    private static void rooms() {
        fresh("r10;r7;r8;d0-1=1;d1-2=9", "6,1,1@1;2,1,1@1;8,1,1@2");
        is("size", room(1, 0), 7);
        is("things", room(1, 1), 3);
        is("none", room(0, 1), 0);
        is("free", room(0, 2), 10);
        is("too full", room(1, 2), -1);
        is("just full", room(2, 2), 0);
        is("doors", room(1, 3), 5);
        is("doors", room(0, 3), 2);
        int[][] bad = {{3, 0}, {-1, 0}, {0, 4}, {0, -1}, {Integer.MAX_VALUE, 1}, {Integer.MIN_VALUE, 1}, {1, Integer.MIN_VALUE}};
        for (int[] b : bad) {
            is("no such", room(b[0], b[1]), THROWN);
        }
    }

    private static void things() {
        fresh("r10;r7", "6,1,4@1;2,9,1@1;8,3,9@0;sac;sc;sb");
        int[][] want = {{6, 1, 4, 1, 1, 0, 0}, {2, 9, 1, 1, 4, 1, 0}, {8, 3, 9, 0, 3, 0, 0}};
        for (int t = 0; t < 3; t++) {
            for (int what = 0; what < 7; what++) {
                is("thing " + t + " " + what, thing(t, what), want[t][what]);
            }
        }
        int[][] bad = {{3, 0}, {-1, 0}, {0, 7}, {0, -1}, {Integer.MAX_VALUE, 1}, {Integer.MIN_VALUE, 1}, {10, 6}};
        for (int[] b : bad) {
            is("no such", thing(b[0], b[1]), THROWN);
        }
        rule("h-2");
        is("where it is", thing(2, 6), -1);
    }

    // ---- promises 8 to 10

    private static void setsAndDoors() {
        fresh("r1;r2;r3;d0-2=4", "1,1,1@0;1,1,1@0;sb;sab");
        is("set", x.set(0), 2);
        is("set", x.set(1), 3);
        is("none such", x.set(2), NONE);
        is("below 0", x.set(-1), NONE);
        is("far", x.set(99), NONE);
        x.breaks(0);
        x.breaks(1);
        is("empty", x.set(1), 0);
        is("door", x.door(2, 0), 4);
        is("no door", x.door(0, 1), -2);
        is("like ones", x.door(1, 1), NONE);
        is("none such", x.door(0, 3), NONE);
        is("none such", x.door(-1, 0), NONE);
        is("made", x.widen(1, 0, 9), 0);
        is("made", x.door(0, 1), 9);
        is("other", x.widen(0, 1, 3), 9);
        is("gone", x.widen(2, 0, 0), 4);
        is("gone", x.door(0, 2), -2);
        is("not there still", x.widen(2, 0, 0), 0);
        int[][] bad = {{0, 0, 5}, {0, 3, 5}, {3, 0, 5}, {-1, 0, 5}, {0, 1, 10}, {0, 1, -1}};
        for (int[] b : bad) {
            is("refused", x.widen(b[0], b[1], b[2]), NONE);
        }
        is("as it was", x.door(0, 1), 3);
        is("doors", x.count(3), 1);
    }

    // ---- promises 11 and 12

    private static void strengthAndSheet() {
        fresh("r9", "1,1,7@0;1,1,8@0;1,1,9@0");
        is("at first", x.strength(1), 999);
        is("then", x.strength(999), 1);
        is("0", x.strength(0), NONE);
        is("1000", x.strength(1000), NONE);
        is("below 0", x.strength(-5), NONE);
        is("as it was", x.count(11), 999);
        is("two ints", x.sheet(2, 2, 3, 4), 3 + 7 + 1);
        is("weight", thing(1, 2), 7);
        is("weight", thing(2, 2), 1);
        is("bytes", x.sheet(0, 3, 250, 9), 1 + 3 + 9);
        is("bytes have a sign", x.sheet(0, 3, 127, 1), 9 + 1 + 1);
        is("a byte's lowest bits", x.sheet(0, 1, 256 + 5, 0), 5 + 2);
        is("shorts", x.sheet(1, 3, 65536 + 4, 1), 4 + 5 + 6);
        is("shorts have a sign", x.sheet(1, 2, 32767, 1), 9 + 1 + 1);
        is("ints go round", x.sheet(2, 2, Integer.MAX_VALUE, 1), 9 + 1 + 1);
        is("entries aside", x.sheet(2, 10, 2, 0), 6);
        is("n of 0", x.sheet(2, 0, 5, 5), 3);
        is("n above 10", x.sheet(2, 11, 5, 5), NONE);
        x.sheet(2, 3, 5, 1);
        is("n below 0", x.sheet(0, -1, 5, 5), -2);
        is("n below 0", x.sheet(1, Integer.MIN_VALUE, 5, 5), -2);
        is("nothing changed", thing(2, 2), 7);
        is("missing, n above 10", x.sheet(3, 11, 5, 5), NONE);
        is("another kind", x.sheet(4, -1, 5, 5), NONE);
        is("another kind", x.sheet(-1, 1, 5, 5), NONE);
        is("nothing changed", thing(0, 2), 5);
        is("missing", x.sheet(3, 2, 5, 5), -3);
        is("all 1", thing(0, 2) + thing(1, 2) + thing(2, 2), 3);
        x.sheet(2, 3, 5, 1);
        is("missing, below 0", x.sheet(3, -4, 5, 5), -3);
        is("all 1", thing(1, 2), 1);
        is("put to 1", x.sheet(2, 3, -7, 0), 3);
        fresh();
        is("no things", x.sheet(2, 4, 4, 4), 0);
    }

    // ---- promise 13

    private static void carrying() {
        fresh("r9;r9;r9;r1;d0-1=3;d1-2=5", "9,4,7@1;9,3,2@0");
        is("2 steps", x.carry(1, 2), 4);
        is("carried", x.count(5), 4);
        is("there", thing(1, 3), 2);
        is("too wide", x.carry(0, 0), -2);
        is("no way", x.carry(0, 3), -2);
        is("no thing", x.carry(2, 0), NONE);
        is("no thing", x.carry(-1, 0), NONE);
        is("no room", x.carry(0, 4), NONE);
        is("no room", x.carry(0, -1), NONE);
        is("full does not matter", x.carry(0, 2), 7);
        is("in one room", room(2, 2), -9);
        is("where it is", x.carry(0, 2), 0);
        x.strength(13);
        is("just so much", x.carry(1, 1), 2);
        is("more", x.carry(1, 0), -3);
        is("stays", thing(1, 3), 1);
        is("stays", x.count(5), 13);
        x.strength(12);
        is("even nothing is more", x.carry(1, 1), -3);
        is("no way is ahead", x.carry(0, 3), -2);
    }

    // ---- promise 14

    private static void eveningsThatCome() {
        fresh("r9;r5;d0-1=9", "5,1,1@0;5,1,1@0;1,1,1@1;sab;sac;sc");
        x.carry(2, 1);
        is("not lawful", x.evening(), 0);
        rowIs(2, 1);
        is("nothing changes", x.count(8), 1);
        x.carry(0, 1);
        is("not lawful", x.evening(), 0);
        rowIs(1, 2);
        is("days", x.count(4), 0);
        is("carried", x.count(5), 1);
        fresh("r9;r5;d0-1=9", "5,1,1@0;4,1,1@1;1,1,1@0;sac");
        x.carry(1, 0);
        is("10 in 9", x.evening(), 0);
        rowIs(0, 1);
        x.carry(1, 1);
        is("lawful", x.evening(), 1);
        rowIs(0, 0);
        is("days", x.count(4), 1);
        is("carried", x.count(5), 0);
        is("forgotten", x.count(8), 0);
        is("once more", x.evening(), 1);
        is("days", x.count(4), 2);
    }

    // ---- promise 15

    private static void daysTold() {
        fresh("r9;r12;d0-1=5", "5,1,2@0;5,1,3@0;1,6,1@0;sab");
        x.carry(0, 1);
        x.carry(0, 0);
        is("carried ahead", x.count(5), 4);
        is("day", day("a>1;b>1"), 2);
        rowIs(1, 5);
        is("days", x.count(4), 1);
        is("carried", x.count(5), 0);
        is("one can't", day("a>0;c>1;b>0"), 1);
        rowIs(NONE, 2);
        is("carried", x.count(5), 2);
        is("to be undone", x.count(8), 1);
        is("not lawful", day("a>0"), 1);
        rowIs(0, 0);
        is("days", x.count(4), 1);
        is("carried still", x.count(5), 2);
        is("an empty one", day(""), 0);
        rowIs(0, 0);
        is("no such room", day("b>7;a>1"), 0);
        rowIs(NONE, 0);
        x.strength(3);
        is("too much", day("b>1;a>1;b>0"), 1);
        rowIs(NONE, 0);
        x.strength(4);
        is("lawful", day("a>1"), 1);
        rowIs(1, 2);
        is("days", x.count(4), 2);
        String[] faults = {
            "x 0", "k>1 0", "`>1 0", "A>1 0", "J>1 0", "a 1", "a1 1", "a> 2", "a>b 2", "a>1; 4", "a>1;k>1 4", "a>12 3",
            "a>1,b>1 3", ";a>1 0", "a>1;;b>1 4", "> 0", "d 1", "j 1", "j1 1", "j> 2", "j>: 2", "a>1;d 5", "j>1; 4",
            "d>7,a>1 3",
        };
        x.evening();
        int days = 3;
        for (String told : faults) {
            int cut = told.lastIndexOf(' ');
            is("day " + told, day(told.substring(0, cut)), -1 - Integer.parseInt(told.substring(cut + 1)));
        }
        rowIs(0, 0);
        is("nothing is done", x.count(4), days);
        is("nothing is done", x.count(5), 0);
        is("read is empty", x.count(10), 0);
        fresh("r9;r9;d0-1=5", "5,1,2@0");
        is("39 signs", day(times("a>1;", 9) + "a>1"), 10);
        is("40 signs", day(times("a>1;", 10)), -41);
        is("41, could go on", day(times("a>1;", 10) + "a"), -41);
        is("41, a fault at 40", day(times("a>1;", 10) + "x"), -41);
        is("43", day(times("a>1;", 10) + "a>1"), -41);
        is("a fault at 39", day(times("a>1;", 9) + "a>1,a>1"), -40);
        fresh();
        is("empty house", day(""), 0);
        rowIs(1, 0);
        is("days", x.count(4), 1);
        is("no things", day("a>0"), 0);
        rowIs(NONE, 0);
        is("no thing's letter", day("k>0"), -1);
        is("no sign behind it", day("j"), -2);
        is("no evening", x.count(4), 1);
        daysOfThingsNotThere();
    }

    private static void daysOfThingsNotThere() {
        fresh("r9;r9;d0-1=5", "5,1,2@0;5,1,3@0");
        is("the first", day("c>1;a>1"), 0);
        rowIs(NONE, 0);
        is("nothing is carried", thing(0, 3), 0);
        is("one ahead of it", day("a>1;j>1;b>1"), 1);
        rowIs(NONE, 2);
        is("carried", thing(0, 3), 1);
        is("not carried", thing(1, 3), 0);
        is("carried", x.count(5), 2);
        is("to be undone", x.count(8), 1);
        is("the last", day("a>1;a>0;c>7"), 2);
        rowIs(NONE, 2);
        is("no evening", x.count(4), 0);
        is("carried", x.count(5), 4);
        is("each letter", day("b>1;a>0;a>0;b>0;b>1;h>0;i>1;j>2;k>3"), -33);
        rowIs(NONE, 2);
        is("nothing is done", x.count(5), 4);
        is("39 signs", day("c>0;d>1;e>2;f>3;g>4;h>5;i>6;j>7;c>8;d>9"), 0);
        rowIs(NONE, 0);
        is("40, one more", day(times("j>1;", 10) + "j>1"), -41);
        is("here now", house("1,1,1@1"), 1);
        is("it is there", day("c>0;b>1"), 2);
        rowIs(1, 4);
        is("evening", x.count(4), 1);
    }

    // ---- promise 16

    private static void undoing() {
        fresh("r9;r9;d0-1=5", "5,1,2@0;5,1,3@1");
        is("none", x.undo(), NONE);
        x.carry(0, 1);
        x.carry(0, 1);
        x.carry(1, 0);
        is("three", x.count(8), 3);
        is("carried", x.count(5), 5);
        is("undo", x.undo(), 2);
        is("back", thing(1, 3), 1);
        is("carried", x.count(5), 2);
        is("where it is", x.undo(), 1);
        is("carried", x.count(5), 2);
        is("undo", x.undo(), 0);
        is("back", thing(0, 3), 0);
        is("carried", x.count(5), 0);
        is("none left", x.undo(), NONE);
        for (int i = 0; i < 25; i++) {
            x.carry(0, (i + 1) % 2);
        }
        is("twenty", x.count(8), 20);
        is("carried", x.count(5), 50);
        for (int left = 19; left >= 0; left--) {
            is("undo", x.undo(), left);
        }
        is("no more", x.undo(), NONE);
        is("five carried", x.count(5), 10);
        is("where it was", thing(0, 3), 1);
        x.carry(0, 0);
        x.keep(0);
        x.carry(1, 0);
        is("kept ones are not there", x.again(1), false);
        is("not forgotten", x.count(8), 2);
        is("again", x.again(0), true);
        is("forgotten", x.undo(), NONE);
        day("a>1;b>0;a>7");
        is("of a day", x.count(8), 2);
        x.sheet(3, 0, 0, 0);
        is("undo", x.undo(), 1);
        is("carried as ahead of it", x.count(5), 14);
    }

    private static void undoingMany() {
        fresh("r9;r9;r9;d0-1=5;d1-2=5", "5,1,2@0;5,1,3@1;5,1,5@2");
        int[][] before = new int[50][];
        for (int i = 0; i < 50; i++) {
            before[i] = new int[] {thing(0, 3), thing(1, 3), thing(2, 3), x.count(5)};
            x.carry(i * i % 3, (i * 7 + i / 3) % 3);
            is("kept", x.count(8), Math.min(20, i + 1));
        }
        for (int i = 49; i >= 30; i--) {
            is("undo", x.undo(), i - 30);
            for (int t = 0; t < 3; t++) {
                is("where it was ahead of " + i, thing(t, 3), before[i][t]);
            }
            is("carried ahead of " + i, x.count(5), before[i][3]);
        }
        is("no more", x.undo(), NONE);
    }

    // ---- promise 17

    private static void judging() {
        fresh("r9;r12;r1;d0-1=5", "5,1,2@0;5,1,3@0;1,6,1@1;sab");
        int a1 = 1;
        int b1 = 11;
        int c0 = 20;
        is("none", x.judge(0, -1), -2);
        rowIs(0, 0);
        is("two", x.judge(2, a1 | b1 << 7), -2);
        rowIs(5, 1);
        is("one of two", x.judge(1, a1 | b1 << 7), -2);
        rowIs(2, 0);
        is("the second can't", x.judge(3, a1 | c0 << 7 | b1 << 14), 1);
        rowIs(2, 0);
        is("four", x.judge(4, a1 | b1 << 7 | 10 << 14), -2);
        rowIs(10, 0);
        is("no room", x.judge(1, 3), 0);
        is("no thing", x.judge(1, 31), 0);
        is("127", x.judge(4, -1), 0);
        rowIs(0, 0);
        is("highest bits aside", x.judge(1, a1 | 1 << 31), -2);
        rowIs(2, 0);
        is("nothing changes", thing(0, 3), 0);
        is("nothing changes", x.count(5) + x.count(8), 0);
        x.strength(4);
        is("too much", x.judge(2, a1 | b1 << 7), 1);
        rowIs(2, 0);
        x.carry(0, 1);
        is("carried counts", x.judge(1, b1), 0);
        rowIs(0, 0);
        is("n of 5", x.judge(5, 0), NONE);
        is("n of -1", x.judge(-1, 0), NONE);
        rowIs(0, 0);
        x.strength(5);
        is("just so much", x.judge(1, b1), -2);
        rowIs(3, 1);
    }

    // ---- promises 18 to 22

    private static void clumpsAndHeaviest() {
        fresh("r9;r12;r6", "3,1,1@0;5,1,1@0;3,1,1@1;5,1,1@0;2,1,1@0;6,1,1@0");
        is("alone", x.clumps(), 6);
        rowIs(1, 2, 4, 8, 16, 32);
        is("heaviest", x.heaviest(), 5);
        rowIs(6, 7);
        is("sets", house("sbe;sce;sd"), 3);
        is("clumps", x.clumps(), 4);
        rowIs(1, 22, 8, 32);
        is("by their least", thing(5, 5), 3);
        is("hangs", thing(4, 5), 1);
        is("heaviest", x.heaviest(), 1);
        rowIs(10, 2);
        is("equal", house("4,1,1@0;sfg"), 2);
        is("the first", x.heaviest(), 1);
        is("too small all", house("3,1,1@0;sbh"), 2);
        is("heaviest", x.heaviest(), 1);
        rowIs(13, 0);
        fresh("r5");
        is("no things", x.heaviest(), -2);
        is("none", x.clumps(), 0);
        rowIs();
    }

    private static void withoutBreaksTies() {
        fresh("r9", times("1,1,1@0;", 5) + "1,1,1@0", "sab;sbc;sd;sdef;sde");
        is("clumps", x.clumps(), 2);
        is("without b", x.without(1), 3);
        rowIs(0);
        is("without d", x.without(3), 2);
        rowIs(4);
        is("without a", x.without(0), 2);
        is("none such", x.without(6), NONE);
        is("none such", x.without(-1), NONE);
        rowIs(0);
        is("ties", x.ties(), 1 | 2 | 8);
        is("breaks", x.breaks(1), 4);
        is("set", x.set(1), 4);
        is("ties", x.ties(), 8);
        is("breaks", x.breaks(3), 5);
        is("empty set", x.set(2), 0);
        is("none such", x.breaks(6), NONE);
        is("none such", x.breaks(-1), NONE);
        is("once more", x.breaks(3), 5);
        is("without a", x.without(0), 4);
        rowIs(1 | 4);
        is("a round", house("sab;sbc;sac"), 3);
        is("ties", x.ties(), 8);
    }

    // ---- promises 23 to 25

    private static void fitsWorthBest() {
        fresh("r5;r6", "3,1,1@0;3,1,1@1;2,1,1@0;sac");
        is("fits", x.fits(), 2);
        rowIs(0, 1, 0);
        is("without doors", x.near(), 0);
        is("best", x.best(), 1);
        rowIs(0, 0, 1, 0);
        rule("b*r-5");
        is("worth", x.worth(), -5 - 2 - 5);
        is("best", x.best(), 1);
        rowIs(5 * 1 - 15, 1, 0, 1);
        rule("h");
        is("best", x.best(), 1);
        rowIs(3, 0, 1, 0);
        rule("1");
        is("as good ones", x.best(), 1);
        rowIs(3, 0, 1, 0);
        x.clumps();
        is("too big", house("6,1,1@0;2,1,1@1"), 2);
        is("none", x.best(), -2);
        rowIs(5, 2);
        is("none", x.fits(), 0);
        rowIs();
        fresh("r5;r9");
        is("no things", x.fits(), 1);
        rowIs();
        is("no things", x.best(), 1);
        rowIs(0);
    }

    // ---- promises 26 and 27

    private static void nearAndGuest() {
        fresh("r5;r6;r4;d0-1=2;d1-2=2", "3,2,1@0;3,1,4@0;2,2,1@0");
        is("near", x.near(), 1);
        rowIs(1, 0, 0);
        is("free 6 in 1", x.guest(1, 6), 2);
        rowIs(2, 0, 0);
        is("free 4 in 2", x.guest(2, 4), 1);
        rowIs(1, 0, 0);
        is("free 3 in 2", x.guest(2, 3), 1);
        is("free 3 in 0", x.guest(0, 3), 5);
        rowIs(1, 1, 0);
        is("free 6 in 0", x.guest(0, 6), -2);
        is("no such room", x.guest(3, 0), NONE);
        is("no such room", x.guest(-1, 0), NONE);
        is("below 0", x.guest(0, -1), NONE);
        is("above 99", x.guest(0, 100), NONE);
        is("99", x.guest(0, 99), -2);
        rowIs(1, 1, 0);
        x.widen(0, 1, 1);
        is("too wide to go", x.near(), 4);
        rowIs(0, 1, 0);
        x.widen(0, 1, 0);
        is("none is come to", x.near(), -2);
        x.widen(0, 2, 9);
        x.widen(0, 1, 9);
        is("as little", x.near(), 1);
        rowIs(1, 0, 0);
        x.sheet(2, 3, 1, 0);
        is("as little, of all the least row", x.near(), 1);
        rowIs(0, 1, 0);
    }

    private static void spaceCouldMay() {
        fresh("r9;r5;r9", "5,1,1@0;4,1,1@1;2,1,1@0;sac");
        is("fits", x.fits(), 4);
        is("space", x.space(), 9);
        rowIs(0, 2, 1, 2);
        is("could 5", x.could(5, 0), 7);
        is("could 9", x.could(9, 0), 5);
        is("could 10", x.could(10, 0), 0);
        is("could 2 in it", x.could(2, 1), 5);
        is("could 3 in it", x.could(3, 1), 0);
        is("bulk 0", x.could(0, 0), NONE);
        is("bulk 100", x.could(100, 0), NONE);
        is("bulk 99", x.could(99, 0), 0);
        is("no such set", x.could(1, 2), NONE);
        is("no such set", x.could(1, -1), NONE);
        is("may", x.may(0), 5);
        rowIs(2);
        is("may", x.may(1), 7);
        rowIs(2);
        is("none such", x.may(2), NONE);
        is("none such", x.may(-1), NONE);
        is("more", house("9,1,1@0;sb"), 2);
        is("space", x.space(), 2);
        rowIs(0, 0, 1, 0, 2);
        is("both sets", x.could(1, 3), 0);
        is("second set", x.could(1, 2), 2);
        is("none", house("9,1,1@0"), 1);
        is("space", x.space(), -2);
        is("may", x.may(0), 0);
        rowIs(0);
        fresh("r3;r3");
        is("the first", x.space(), 3);
        rowIs(0);
        fresh();
        is("no rooms", x.space(), -2);
    }

    // ---- promises 31 to 33

    private static void togetherFullestSwap() {
        fresh("r9;r5;r9;d0-1=2;d1-2=2", "5,1,1@0;4,1,3@1;2,2,1@0;sac");
        is("together", x.together(0, 2), 4);
        rowIs(4);
        is("never", x.together(0, 1), 0);
        rowIs(4);
        is("like", x.together(1, 1), NONE);
        is("none such", x.together(0, 3), NONE);
        is("none such", x.together(-1, 0), NONE);
        is("fullest", x.fullest(0), 7);
        rowIs(0, 1, 0);
        is("fullest", x.fullest(1), 4);
        rowIs(0, 1, 0);
        is("fullest", x.fullest(2), 7);
        rowIs(2, 0, 2);
        is("none such", x.fullest(3), NONE);
        is("none such", x.fullest(-1), NONE);
        is("swap", x.swap(0, 1), 0);
        rowIs(5);
        is("swap", x.swap(0, 2), 1);
        rowIs(4);
        is("swap", x.swap(2, 1), 1);
        rowIs(3);
        x.widen(1, 2, 1);
        is("too wide", x.swap(2, 0), 1);
        rowIs(NONE);
        is("like", x.swap(1, 1), NONE);
        is("none such", x.swap(0, 3), NONE);
        is("none such", x.swap(-1, 0), NONE);
        rowIs(NONE);
        x.carry(2, 1);
        is("parted", x.swap(0, 1), 0);
        house("9,1,1@0;9,1,1@0");
        is("none", x.fullest(0), -2);
        is("none", x.together(0, 2), 0);
        rowIs(0);
    }

    // ---- promises 34 and 35

    private static void sellAndBuild() {
        fresh("r5;r6", "3,1,1@0;4,1,1@1;6,1,1@0;1,1,1@0");
        is("sell", x.sell(), 1);
        rowIs(1);
        is("build", x.build(), 3);
        rowIs(0);
        fresh("r5;r6", "3,1,1@0;3,1,1@1;3,1,1@0;3,1,1@0;5,1,1@0;sad");
        is("as few, least bulk", x.sell(), 2);
        rowIs(6);
        is("build", x.build(), 6);
        rowIs(0);
        fresh("r5;r6", "3,1,1@0;3,1,1@1");
        is("nothing", x.sell(), 0);
        rowIs(0);
        is("nothing", x.build(), 0);
        rowIs(NONE);
        fresh("r5;r6", "3,1,1@0;7,1,1@1;3,1,1@1;sac");
        is("two rooms too small", x.build(), 2);
        rowIs(0);
        fresh("r6;r5", "3,1,1@0;7,1,1@1;3,1,1@1;sac");
        is("another room", x.build(), 2);
        rowIs(1);
        fresh("r1", "99,1,1@0");
        is("98", x.build(), 98);
        fresh("r1", "99,1,1@0;1,1,1@0");
        is("99", x.build(), 99);
        rowIs(0);
        is("100", house("1,1,1@0"), 1);
        is("100", x.build(), -2);
        rowIs(0);
        is("sell the great", x.sell(), 2);
        rowIs(3);
        fresh("r1;r1", "2,1,1@0;2,1,1@0");
        is("two do not fit", x.build(), 3);
        rowIs(0);
        is("sell all", x.sell(), 2);
        rowIs(3);
        fresh();
        is("no rooms", x.build(), -2);
        is("nothing", x.sell(), 0);
    }

    // ---- promises 36 to 39

    private static void waysAndDoors() {
        fresh("r9;r9;r9;r9;r9;r9;d0-2=5;d2-4=5;d0-1=4;d1-4=3;d4-3=2", "1,1,1@0;1,4,1@0;1,6,1@0");
        is("way", x.way(0, 4), 2);
        rowIs(1, 4);
        is("way", x.way(1, 4), 2);
        rowIs(2, 4);
        is("way", x.way(0, 3), 3);
        rowIs(1, 4, 3);
        is("no way", x.way(1, 3), -2);
        rowIs(1, 4, 3);
        is("there", x.way(1, 0), 0);
        rowIs();
        is("none such", x.way(3, 0), NONE);
        is("none such", x.way(0, 6), NONE);
        is("none such", x.way(0, -1), NONE);
        is("widest", x.widest(0, 4), 5);
        is("widest", x.widest(1, 2), 4);
        is("widest", x.widest(3, 0), 2);
        is("none", x.widest(0, 5), 0);
        is("same", x.widest(5, 5), 9);
        is("none such", x.widest(6, 6), NONE);
        is("none such", x.widest(0, -1), NONE);
        is("stuck", x.stuck(), 7);
        is("hinge 3", x.hinge(3), 3);
        rowIs(4, 2);
        is("hinge 0", x.hinge(0), 0);
        rowIs(1, 3);
        is("hinge 2", x.hinge(2), 0);
        rowIs(2, 3);
        is("hinge 5", x.hinge(5), 0);
        rowIs(1, 0);
        is("none such", x.hinge(6), NONE);
        is("as they were", x.door(0, 2), 5);
        x.widen(4, 5, 2);
        is("stuck", x.stuck(), 6);
        fresh("r9;r9", "1,1,1@0");
        is("no doors", x.hinge(0), -2);
        is("no such room", x.hinge(2), NONE);
        is("stuck", x.stuck(), 1);
        x.widen(0, 1, 1);
        is("stuck", x.stuck(), 0);
    }

    // ---- promises 40 and 41

    private static void aims() {
        fresh("r9;r9;r9;d0-1=5;d1-2=4", "5,5,2@0;5,4,3@2;1,1,1@1;sbc");
        is("no aim", x.apart(), -4);
        is("aim", aim("101"), 3);
        is("apart", x.apart(), 2 + 6);
        rowIs(0);
        is("aim", aim("111"), 3);
        is("apart", x.apart(), 2 + 3);
        rowIs(0);
        is("aim", aim("011"), 3);
        is("apart", x.apart(), 3);
        rowIs(1);
        is("no way", aim("200"), 3);
        is("apart", x.apart(), -2);
        rowIs(1);
        String[] faults = {"0 1", "01 2", "x 0", "03 1", "0x1 1", "0111 3", "011x 3", "0311 1", "01; 2", "a11 0"};
        for (String told : faults) {
            int cut = told.lastIndexOf(' ');
            is("aim " + told, aim(told.substring(0, cut)), -1 - Integer.parseInt(told.substring(cut + 1)));
        }
        is("read is empty", x.count(10), 0);
        is("still the aim", x.apart(), -2);
        aim("011");
        house("r9");
        is("rooms do not matter", x.apart(), 3);
        house("1,1,1@0");
        is("things came", x.apart(), -4);
        is("things came", x.queue(), -4);
        is("things came", x.evenings(), -4);
        is("things came", x.weakest(), -4);
        is("aim", aim("0110"), 4);
        is("apart", x.apart(), 3);
        is("none", aim(""), 0);
        is("none", x.apart(), -4);
        fresh("r9");
        is("no things", aim("0"), -1);
        is("no things", aim(""), 0);
        is("no aim", x.apart(), -4);
    }

    // ---- promise 42

    private static void queues() {
        fresh("r5;r5;r5;d0-1=5;d1-2=5", "5,1,1@0;5,1,1@1");
        is("no aim", x.queue(), -4);
        aim("10");
        is("changing places", x.queue(), -2);
        aim("12");
        is("one behind the other", x.queue(), 2);
        rowIs(1, 0);
        aim("01");
        is("none", x.queue(), 0);
        rowIs();
        fresh("r9;r9;r5;d0-1=3;d1-2=5", "5,1,1@0;2,1,1@1;2,4,1@1;sab");
        aim("111");
        is("now parts", x.queue(), -5);
        x.carry(1, 0);
        is("now does not", x.queue(), 1);
        rowIs(0);
        aim("101");
        is("the aim parts", x.queue(), -5);
        aim("110");
        is("no way", x.queue(), -2);
        aim("112");
        is("all orders", x.queue(), 2);
        rowIs(0, 1);
        aim("222");
        is("too full", x.queue(), -2);
        fresh("r5", "4,1,1@0;4,1,1@0");
        aim("00");
        is("unlawful, but none goes", x.queue(), 0);
        rowIs();
    }

    // ---- promises 43 and 44

    private static void journeys() {
        fresh("r9;r9;r9;d0-1=9;d1-2=9", "5,1,2@0;5,1,3@1");
        aim("10");
        is("at once", x.evenings(), 1);
        rowIs(5, 1, 0);
        is("weakest", x.weakest(), 4);
        rowIs(3);
        x.strength(4);
        is("evenings", x.evenings(), 3);
        rowIs(9, 2, 1);
        x.strength(3);
        is("never", x.evenings(), -2);
        rowIs(9, 2, 1);
        is("weakest", x.weakest(), 4);
        aim("01");
        is("it is", x.evenings(), 0);
        rowIs(0);
        is("it is", x.weakest(), 0);
        rowIs(0);
        aim("11");
        is("not lawful", x.evenings(), -2);
        is("not lawful", x.weakest(), -2);
        x.strength(999);
        x.carry(0, 1);
        is("as it is, unlawful", x.evenings(), 0);
        is("as it is, unlawful", x.weakest(), 0);
        aim("10");
        is("from an unlawful one", x.evenings(), 1);
        rowIs(3, 1, 0);
        x.widen(0, 1, 0);
        is("no way", x.evenings(), -2);
        is("no way", x.weakest(), -2);
        rowIs(3, 1, 0);
        fresh("r9;r9;r9;r9;d0-1=9", times("1,1,1@0;", 4) + "1,1,1@1");
        aim("00000");
        is("more than 300", x.evenings(), -3);
        is("more than 300", x.weakest(), -3);
        aim("00001");
        is("as it is", x.evenings(), 0);
        is("as it is", x.weakest(), 0);
    }

    // ---- promises 45 and 46

    private static void keptOnes() {
        fresh("r9;r9;d0-1=9", "5,1,2@0;4,1,3@1");
        is("nothing kept", x.again(0), false);
        x.evening();
        x.carry(0, 1);
        is("keep", x.keep(1), true);
        is("others", x.keep(2), false);
        is("others", x.keep(-1), false);
        is("nothing kept", x.again(0), false);
        is("others", x.again(2), false);
        is("others", x.again(-1), false);
        x.carry(1, 0);
        x.evening();
        x.widen(0, 1, 3);
        x.strength(77);
        is("again", x.again(1), true);
        is("days", x.count(4), 1);
        is("carried", x.count(5), 2);
        is("there", thing(0, 3), 1);
        is("there", thing(1, 3), 1);
        is("doors stay", x.door(0, 1), 3);
        is("strength stays", x.count(11), 77);
        is("no undo", x.count(8), 0);
        is("again still", x.again(1), true);
        x.keep(0);
        house("sab");
        is("sets do not matter", x.again(1), true);
        house("r1");
        is("rooms came", x.again(1), false);
        is("keep", x.keep(1), true);
        house("1,1,1@0");
        is("things came", x.again(1), false);
        x.carry(2, 1);
        is("refused, so not forgotten", x.again(1) ? -9 : x.count(8), 1);
    }

    // ---- promises 47 and 48

    private static void countsAndRows() {
        fresh("r9;r5;r1;d0-1=9;d1-2=1", "5,1,2@0;4,1,3@1;9,1,1@1;sab;sbc");
        x.strength(50);
        x.carry(0, 0);
        x.carry(1, 0);
        x.sign(0);
        x.clumps();
        int[] want = {3, 3, 2, 2, 0, 3, 2, 2, 2, 1, 4, 50};
        for (int what = 0; what < want.length; what++) {
            is("count " + what, x.count(what), want[what]);
        }
        is("another", x.count(12), NONE);
        is("another", x.count(-1), NONE);
        is("another", x.count(Integer.MIN_VALUE), NONE);
        is("row", row(0), 7);
        is("none such", row(1), THROWN);
        is("none such", row(-1), THROWN);
        is("none such", row(Integer.MAX_VALUE), THROWN);
        x.may(7);
        x.near();
        x.hinge(9);
        rowIs(7);
        x.evening();
        rowIs(2, 2);
    }

    private static void tooManyArrangements() {
        fresh("r9;r9;r9;r9;r9;r9", times("1,1,1@0;", 4) + "1,1,1@1");
        x.clumps();
        is("7776", x.fits(), 7776);
        is("one more", house("1,1,1@0"), 1);
        x.evening();
        int[] answers = {
            x.fits(), x.best(), x.near(), x.guest(0, 0), x.space(), x.could(1, 0), x.may(0), x.together(0, 1), x.fullest(0),
            x.sell(), x.build(),
        };
        for (int i = 0; i < answers.length; i++) {
            is("too many " + i, answers[i], -3);
        }
        rowIs(0, 0);
        is("refused ahead", x.guest(6, 0), NONE);
        is("refused ahead", x.could(0, 0), NONE);
        is("refused ahead", x.may(6), NONE);
        is("refused ahead", x.together(0, 0), NONE);
        is("refused ahead", x.fullest(6), NONE);
        aim("000000");
        is("too many", x.evenings(), -3);
        is("too many", x.weakest(), -3);
        is("queue is not asked so", x.queue(), -2);
        is("swap is not asked so", x.swap(0, 1), 1);
        is("a set hangs them together", house("sef"), 1);
        is("7776", x.fits(), 7776);
        fresh("r99;r99;r99", times("1,1,1@0;", 8) + "1,1,1@1");
        is("19683", x.fits(), 19683);
        is("a tenth", house("1,1,1@0"), 1);
        is("59049", x.fits(), -3);
        fresh("r99", times("1,1,1@0;", 8) + "1,1,1@0", "1,1,1@0");
        is("one room", x.fits(), 1);
        rowIs(0, 0, 0, 0, 0, 0, 0, 0, 0, 0);
    }
}
