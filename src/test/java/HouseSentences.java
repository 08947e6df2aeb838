/** Promises 1 to 12, sentence by sentence: each that names an edge, or what is refused. */
public final class HouseSentences extends Asking {
    private static final int MIN = Integer.MIN_VALUE;
    private static final int MAX = Integer.MAX_VALUE;
    /** 70 signs, ten LINES that change nothing but a DOOR. */
    private static final String LONG = "d0-1=3;".repeat(10);

    public static void main(String[] args) {
        newObjectSeen();
        newObjectAsked();
        signs();
        ends();
        houseLines();
        houseTermLimits();
        houseEndsTooEarly();
        houseOver76();
        houseSizeOf0();
        houseNotThere();
        houseNoRoomForALine();
        houseWhole();
        ruleEnds();
        ruleOver40();
        ruleBinding();
        ruleNumbers();
        ruleOfThingAndRoom();
        rooms();
        things();
        sets();
        doors();
        widening();
        strengths();
        sheetKinds();
        sheetEdges();
        finish();
    }

    // ---- promise 1

    private static void newObjectSeen() {
        says("1: No ROOMS, no THINGS");
        fresh();
        for (int what = 0; what < 11; what++) {
            is("count " + what, x.count(what), 0);
        }
        says("Terms: STRENGTH (at first 999)");
        is("strength", x.count(11), 999);
        says("1: No ROOMS, no THINGS");
        is("room", room(0, 0), THROWN);
        is("thing", thing(0, 0), THROWN);
        is("row", row(0), THROWN);
        refusedAll("set", x::set, 0, 1, NONE);
        refusedAll("door", r -> x.door(r, 1), 0, 1, NONE);
        refusedAll("widen", w -> x.widen(0, 1, w), 0, 5);
        refusedAll("carry", t -> x.carry(t, 0), 0, NONE);
        refused("undo", x::undo);
        refusedAll("without", x::without, 0, NONE);
        refusedAll("breaks", x::breaks, 0, NONE);
        refusedAll("guest", r -> x.guest(r, 0), 0, NONE);
        refusedAll("may", x::may, 0, NONE);
        refused("together", () -> x.together(0, 1));
        refusedAll("fullest", x::fullest, 0, NONE);
        refused("swap", () -> x.swap(0, 1));
        refused("way", () -> x.way(0, 0));
        refused("widest", () -> x.widest(0, 0));
        refusedAll("hinge", x::hinge, 0, NONE);
        stays("heaviest", -2, x::heaviest);
        stays("space", -2, x::space);
        stays("build", -2, x::build);
        is("again", x.again(0), false);
    }

    private static void newObjectAsked() {
        says("1: No ROOMS, no THINGS");
        fresh();
        is("house", x.house(), 0);
        is("rule", x.rule(), 0);
        is("aim", x.aim(), 0);
        is("apart", x.apart() + x.queue() + x.evenings() + x.weakest(), 4 * -4);
        is("sheet", x.sheet(2, 10, 5, 5), 0);
        is("sheet", x.sheet(3, 0, 0, 0), -3);
        is("ties", x.ties(), 0);
        is("worth", x.worth(), 0);
        is("stuck", x.stuck(), 0);
        is("could", x.could(1, 0), 0);
        is("judge none", x.judge(0, 0), -2);
        rowIs(0, 1);
        is("judge one", x.judge(1, 0), 0);
        rowIs(0, 1);
        is("clumps", x.clumps(), 0);
        rowIs();
        is("best", x.best(), 1);
        rowIs(0);
        is("fits", x.fits(), 1);
        rowIs();
        is("sell", x.sell(), 0);
        rowIs(0);
        is("near", x.near(), 0);
        rowIs();
        is("evening", x.evening(), 1);
        rowIs(0, 0);
        is("day", x.day(), 0);
        rowIs(1, 0);
        is("days", x.count(4), 2);
        is("keep", x.keep(1), true);
        is("again", x.again(1), true);
    }

    // ---- promises 2 and 3

    private static void signs() {
        says("2: Four signs come behind THE TEXT, of v the highest byte first: how many it has");
        fresh();
        is("r5;r", x.sign(0x72353b72), 4);
        is("61;r", x.sign(0x36313b72), 8);
        is("7, 8, ..", x.sign(0x37380000), 12);
        is("end", x.end(10), true);
        is("house", x.house(), 3);
        is("sizes", room(0, 0) * 10000 + room(1, 0) * 100 + room(2, 0), 5 * 10000 + 61 * 100 + 78);
        is("a byte above 127", x.sign(-1), 4);
        is("is a sign", x.house(), -1);
        says("2: Refused: there would be more than 80");
        for (int n = 4; n <= 80; n += 4) {
            is("sign", x.sign(0x35353535), n);
        }
        for (int n = 80; n > 76; n--) {
            is("end", x.end(n), true);
            refusedAll("sign", x::sign, 0, -1, MAX);
        }
        is("76", x.end(76), true);
        is("76 and 4", x.sign(0), 80);
        is("end", x.end(2), true);
        is("the first signs are there still", x.rule(), 0);
        is("55", x.count(10), 0);
    }

    private static void ends() {
        says("3: THE TEXT has its first n signs alone: true");
        fresh();
        is("0 of 0", x.end(0), true);
        x.sign(0x72313233);
        is("4 of 4", x.end(4), true);
        is("4", x.count(10), 4);
        is("3 of 4", x.end(3), true);
        is("3", x.count(10), 3);
        says("3: false if it has not so many, or n is below 0");
        for (int n : new int[] {4, 5, 80, 81, MAX, -1, MIN}) {
            String before = state();
            is("end " + n, x.end(n), false);
            is("end " + n + " changes nothing", before.equals(state()) && x.count(10) == 3, true);
        }
        says("2: Four signs come behind THE TEXT");
        is("sign", x.sign(0x3b723473), 7);
        x.end(6);
        is("house", x.house(), 2);
        is("sizes", room(0, 0) * 100 + room(1, 0), 12 * 100 + 4);
    }

    // ---- promise 4

    private static void houseLines() {
        says("Terms: LINES with ; between, what they tell comes behind what there is");
        fresh("r5", "r6;1,2,3@1", "r7;4,5,6@2;sab", "sb;7,8,9@0");
        is("rooms", room(0, 0) * 100 + room(1, 0) * 10 + room(2, 0), 567);
        is("things", thing(0, 0) * 100 + thing(1, 0) * 10 + thing(2, 0), 147);
        is("widths", thing(0, 1) * 100 + thing(1, 1) * 10 + thing(2, 1), 258);
        is("weights", thing(0, 2) * 100 + thing(1, 2) * 10 + thing(2, 2), 369);
        is("where", thing(0, 3) * 100 + thing(1, 3) * 10 + thing(2, 3), 120);
        is("sets", x.set(0) * 10 + x.set(1), 32);
        says("Terms: a DOOR (told anew: its WIDTH is that)");
        is("house", house("d0-1=4"), 1);
        is("anew", house("d0-1=9"), 1);
        is("width", x.door(1, 0), 9);
        is("from the other side", house("d1-0=2;d0-2=1"), 2);
        is("width", x.door(0, 1), 2);
        is("one at most", x.count(3), 2);
        says("4: (an empty one: nothing): how many LINES");
        stays("an empty one", 0, x::house);
    }

    private static void houseTermLimits() {
        says("Terms: SIZE 1 .. 99; 1 or 2 digits, not 0");
        fresh("r1;r99;r01;r09;r10");
        is("sizes", room(0, 0) + room(1, 0) + room(2, 0) + room(3, 0) + room(4, 0), 1 + 99 + 1 + 9 + 10);
        fault("r100", 3, x::house);
        says("Terms: BULK 1 .. 99, WIDTH 1 .. 9, WEIGHT 1 .. 9");
        is("house", house("1,1,1@0;99,9,9@1;05,1,9@4"), 3);
        is("bulks", thing(0, 0) + thing(1, 0) + thing(2, 0), 1 + 99 + 5);
        is("widths", thing(0, 1) * 100 + thing(1, 1) * 10 + thing(2, 1), 191);
        is("weights", thing(0, 2) * 100 + thing(1, 2) * 10 + thing(2, 2), 199);
        fault("100,1,1@0", 2, x::house);
        fault("1,0,1@0", 2, x::house);
        fault("1,:,1@0", 2, x::house);
        fault("1,1,0@0", 4, x::house);
        fault("1,1,:@0", 4, x::house);
        fault("1,10,1@0", 3, x::house);
        fault("1:,1,1@0", 1, x::house);
        fault(":,1,1@0", 0, x::house);
        fault("/,1,1@0", 0, x::house);
        says("Terms: WIDTH 1 .. 9 of a DOOR");
        is("house", house("d0-1=1;d1-2=9"), 2);
        is("widths", x.door(0, 1) * 10 + x.door(1, 2), 19);
        fault("d0-1=0", 5, x::house);
        fault("d0-1=:", 5, x::house);
        fault("d0-1=10", 6, x::house);
        fresh("r5");
        fault("r:", 1, x::house);
        fault("r/", 1, x::house);
        fault("r1:", 2, x::house);
    }

    private static void houseEndsTooEarly() {
        says("4: its end, if it ends too early");
        fresh("r5;r6;1,1,1@0");
        String[] early = {
            "r", "d", "d0", "d0-", "d0-1", "d0-1=", "1", "12", "1,", "1,1", "1,1,", "1,1,1", "1,1,1@", "s", "r5;", "sa;", "r5;d0-1=5;",
        };
        for (String text : early) {
            fresh("r5;r6;1,1,1@0");
            fault(text, text.length(), x::house);
            fault("r1;" + text, 3 + text.length(), x::house);
        }
    }

    private static void houseOver76() {
        says("4: 76, if it has more and the first 76 could go on or end");
        fresh("r5;r6");
        is("76", house(LONG + "d0-1=9"), 11);
        is("width", x.door(0, 1), 9);
        fault(LONG + "d0-1=8;", 76, x::house);
        fault(LONG + "d0-1=8;r1", 76, x::house);
        fault(LONG + "d0-1=8x", 76, x::house);
        fault(LONG + "d0-1=88", 76, x::house);
        fault(LONG + "r1;d0-1=9", 76, x::house);
        fault(LONG + "r1;d0-", 76, x::house);
        fault(LONG + "r1;r1;r1", 76, x::house);
        fault(LONG + "r12;r3;4", 76, x::house);
        fault(LONG + "r12;r34", 76, x::house);
        fault(LONG + "r12;r3x", 76, x::house);
        is("76 that end in one digit", house(LONG + "r12;r3"), 12);
        says("4: the sign at p can't stand there");
        fault(LONG + "d0-1=:;r1", 75, x::house);
        fault(LONG + "d0-x=8;r1", 73, x::house);
        fault(LONG + "r1;;r1;r1", 73, x::house);
    }

    private static void houseSizeOf0() {
        says("4: a SIZE or BULK of 0, as far as it stands in the first 76: at its last digit");
        fresh("r5;r6");
        fault("r0", 1, x::house);
        fault("r00", 2, x::house);
        fault("r000", 2, x::house);
        fault("r0;r1", 1, x::house);
        fault("r00;r1", 2, x::house);
        fault("r0x", 1, x::house);
        fault("r00x", 2, x::house);
        fault("0", 0, x::house);
        fault("00", 1, x::house);
        fault("0,1,1@0", 0, x::house);
        fault("00,1,1@0", 1, x::house);
        fault("r5;00,0,0@9", 4, x::house);
        fresh("r5;r6");
        fault(LONG + "r12;r05", 75, x::house);
        fault(LONG + "r12;r00", 75, x::house);
        fault(LONG + "r12;r0", 75, x::house);
        fault(LONG + "r12;r0;r1", 75, x::house);
        fault(LONG + "r1;r00;r5", 75, x::house);
        String upTo75 = "d0-1=3;".repeat(9) + "r1;".repeat(4);
        fresh("r5;r6");
        fault(upTo75 + "0", 75, x::house);
        fault(upTo75 + "0,1", 75, x::house);
        fault(upTo75 + "05,1", 75, x::house);
        fault(upTo75 + "00,1", 75, x::house);
        says("4: 76, if it has more and the first 76 could go on or end");
        fault(upTo75 + "9", 76, x::house);
        fault(upTo75 + "95,1", 76, x::house);
        fault(LONG + "r12;05,1", 76, x::house);
    }

    private static void houseNotThere() {
        says("4: a ROOM that is not there: at it");
        fresh();
        fault("d0-1=1", 1, x::house);
        fault("1,1,1@0", 6, x::house);
        fresh("r5;r6");
        fault("d2-0=1", 1, x::house);
        fault("d0-2=1", 3, x::house);
        fault("d9-0=1", 1, x::house);
        fault("d0-9=1", 3, x::house);
        fault("1,1,1@2", 6, x::house);
        fault("1,1,1@9", 6, x::house);
        fault("d0-2=1;r7", 3, x::house);
        says("4: a ROOM again: at it");
        fault("d0-0=1", 3, x::house);
        fault("d1-1=1", 3, x::house);
        says("4: a THING that is not there: at it");
        fault("sa", 1, x::house);
        fault("sa;1,1,1@0", 1, x::house);
        is("two things", house("1,1,1@0;1,1,1@1"), 2);
        fault("sc", 1, x::house);
        fault("sabc", 3, x::house);
        fault("sj", 1, x::house);
        fault("sk", 1, x::house);
        says("4: a letter that does not rise: at it");
        fault("saa", 2, x::house);
        fault("sba", 2, x::house);
        fault("sabb", 3, x::house);
        fault("saba", 3, x::house);
        says("Terms: what they tell comes behind what there is");
        is("the ROOM, the THING told ahead", house("r7;d2-0=1;1,1,1@2;sac"), 4);
    }

    private static void houseNoRoomForALine() {
        says("Terms: ROOMS 0 .. (at most 6)");
        fresh("r1;r2;r3;r4;r5", "r6");
        says("4: the first sign of a LINE for which there is no room");
        fault("r7", 0, x::house);
        fault("r0", 0, x::house);
        fault("d0-1=1;r7", 7, x::house);
        says("Terms: THINGS 0 .. (at most 10; written a .. j)");
        is("ten", house("1,1,1@0;".repeat(8) + "1,1,1@0") + house("1,1,1@5"), 10);
        is("j is there", house("sj"), 1);
        says("4: the first sign of a LINE for which there is no room");
        fault("1,1,1@0", 0, x::house);
        fault("12,1,1@0", 0, x::house);
        fault("0", 0, x::house);
        fault("sa;1,1,1@0", 3, x::house);
        says("Terms: SETS 0 .. (at most 8)");
        is("eight", house("sa;sb;sc;sd;se;sf;sabcdefghij"), 7);
        is("sets", x.count(2), 8);
        says("4: the first sign of a LINE for which there is no room");
        fault("sa", 0, x::house);
        fault("s", 0, x::house);
        fault("d0-1=1;s", 7, x::house);
        says("Terms: DOORS between two ROOMS (one at most)");
        is("doors", house("d0-1=1;d0-2=1;d0-3=1;d0-4=1;d0-5=1;d1-2=1;d1-3=1;d1-4=1;d1-5=1"), 9);
        is("doors", house("d2-3=1;d2-4=1;d2-5=1;d3-4=1;d3-5=1;d4-5=1"), 6);
        is("all there can be", x.count(3), 15);
        says("4: the first sign of a LINE for which there is no room");
        fresh("r1;r2;r3;r4;r5");
        fault("r6;r7", 3, x::house);
        fault("r6;r7;x", 3, x::house);
    }

    private static void houseWhole() {
        says("4: Nothing of it comes, if a LINE can't");
        fresh("r5;r6;d0-1=2;1,1,1@0;sa");
        fault("r9;d0-1=7;d0-2=7;2,2,2@2;sab;sabc", 32, x::house);
        fault("r9;", 3, x::house);
        fault("1,1,1@1;sb;x", 11, x::house);
        says("2: NONE .. change nothing but THE TEXT, which a call that reads it empties");
        is("house", house("r7"), 1);
        is("emptied", x.count(10), 0);
        says("Terms: DAYS, CARRIED stay, when a house comes");
        x.evening();
        x.carry(0, 1);
        is("house", house("r7;1,1,1@0"), 2);
        is("days, carried", x.count(4) * 10 + x.count(5), 11);
    }

    // ---- promise 5

    private static int valueOf(String text) {
        is("rule " + text, rule(text), 0);
        return thing(0, 6);
    }

    private static void ruleEnds() {
        says("5: THE TEXT is THE RULE (an empty one: none): 0");
        fresh("r9;1,1,1@0;1,1,1@0");
        is("at first none", x.worth(), 0);
        is("7", valueOf("7"), 7);
        is("worth", x.worth(), 14);
        is("emptied", x.count(10), 0);
        is("an empty one", rule(""), 0);
        is("none", x.worth(), 0);
        says("5: -1 - p: as house(): its end, if it ends too early");
        rule("3");
        for (String text : new String[] {"-", "--", "1+", "1*", "1/", "1-", "1<", "1>", "1=", "(", "(1", "(1+", "((1)", "(1)+", "2*-"}) {
            fault(text, text.length(), x::rule);
        }
        is("the rule is what it was", x.worth(), 6);
        says("5: -1 - p: the sign at p can't stand there");
        fresh("r9;1,1,1@0;1,1,1@0");
        fault("a", 0, x::rule);
        fault("1 +1", 1, x::rule);
        fault("+1", 0, x::rule);
        fault("*1", 0, x::rule);
        fault("1+*1", 2, x::rule);
        fault("1)", 1, x::rule);
        fault("()", 1, x::rule);
        fault("ib", 1, x::rule);
        fault("1b", 1, x::rule);
        fault("b1", 1, x::rule);
        fault("1(2)", 1, x::rule);
        fault("(1)2", 3, x::rule);
        fault("1-(2+3]", 6, x::rule);
        fault("1:", 1, x::rule);
        fault("/1", 0, x::rule);
    }

    private static void ruleOver40() {
        says("Terms: THE RULE is a text of at most 40 signs; 5: as house() (40 signs)");
        fresh("r9;1,1,1@0");
        String ones = "1+".repeat(19);
        is("40", valueOf(ones + "12"), 31);
        is("39", valueOf(ones + "1"), 20);
        fault(ones + "123", 40, x::rule);
        fault(ones + "12+1", 40, x::rule);
        fault(ones + "1+1", 40, x::rule);
        fault(ones + "12x", 40, x::rule);
        fault(ones + "(2)", 40, x::rule);
        fault(ones + "1+", 40, x::rule);
        fault(ones + "(1", 40, x::rule);
        fault(ones + "1x1", 39, x::rule);
        fault(ones + "x11", 38, x::rule);
        fault("1".repeat(80), 3, x::rule);
        fault("-".repeat(80), 40, x::rule);
        is("the rule is what it was", thing(0, 6), 20);
    }

    private static void ruleBinding() {
        fresh("r9;1,1,1@0");
        says("Terms: < > = bind least (two; 1 or 0)");
        String[] told = {"1+1<3 1", "3>1+1 1", "2=1+1 1", "1<1 0", "1>1 0", "1=2 0", "2*3=6 1", "0-1<0 1", "5-(1<2) 4", "(1<2)+(2>1) 2"};
        for (String one : told) {
            int cut = one.lastIndexOf(' ');
            is(one, valueOf(one.substring(0, cut)), Integer.parseInt(one.substring(cut + 1)));
        }
        says("Terms: not one behind the other");
        fault("1<2<3", 3, x::rule);
        fault("1=1=1", 3, x::rule);
        fault("1>2=0", 3, x::rule);
        fault("(1<2>1)", 4, x::rule);
        is("an EXPRESSION in ( ) can", valueOf("(1<2)=1"), 1);
        says("Terms: then + - (from the left), then * / (from the left; by 0: 0; cut to 0)");
        is("9-4-3", valueOf("9-4-3"), 2);
        is("9-4+3", valueOf("9-4+3"), 8);
        is("1+2*3", valueOf("1+2*3"), 7);
        is("100/5/2", valueOf("100/5/2"), 10);
        is("7/2*2", valueOf("7/2*2"), 6);
        is("7*2/4", valueOf("7*2/4"), 3);
        says("Terms: by 0: 0");
        is("7/0", valueOf("7/0"), 0);
        is("7/0+5", valueOf("7/0+5"), 5);
        is("0/0", valueOf("0/0"), 0);
        is("-7/(3-3)", valueOf("-7/(3-3)"), 0);
        says("Terms: cut to 0");
        is("-7/2", valueOf("-7/2"), -3);
        is("7/-2", valueOf("7/-2"), -3);
        is("-7/-2", valueOf("-7/-2"), 3);
        is("-1/2", valueOf("-1/2"), 0);
        says("Terms: then - ahead of a thing (any many)");
        is("-5", valueOf("-5"), -5);
        is("--5", valueOf("--5"), 5);
        is("3---5", valueOf("3---5"), -2);
        is("-b*-7", valueOf("-b*-7"), 7);
        is("-(1+1)", valueOf("-(1+1)"), -2);
        is("39 of them", valueOf("-".repeat(39) + "5"), -5);
        says("Terms: an EXPRESSION in ( ) (at most 4 in one another)");
        is("4", valueOf("((((7))))"), 7);
        is("4, once more", valueOf("((((7))))+((((7))))"), 14);
        fault("(((((7)))))", 4, x::rule);
        fault("1+((((2+(3)))))", 8, x::rule);
    }

    private static void ruleNumbers() {
        fresh("r9;1,1,1@0");
        says("Terms: a NUMBER of 1 to 3 digits");
        is("0", valueOf("0"), 0);
        is("000", valueOf("000"), 0);
        is("012", valueOf("012"), 12);
        is("999", valueOf("999"), 999);
        fault("1000", 3, x::rule);
        fault("0000", 3, x::rule);
        fault("1+2345", 5, x::rule);
        says("Terms: As ints, put to -999 .. 999");
        is("999+1", valueOf("999+1"), 999);
        is("-999-1", valueOf("-999-1"), -999);
        is("998+1", valueOf("998+1"), 999);
        is("-998-1", valueOf("-998-1"), -999);
        is("only at the end", valueOf("999+999-999-900"), 99);
        is("only at the end", valueOf("999*999/999/9"), 111);
        is("not in ( )", valueOf("(999*999)/999/9"), 111);
        is("not in ( )", valueOf("(0-999-999)/(1-3)"), 999);
        is("not what is compared", valueOf("999+2>999+1"), 1);
        says("Terms: As ints (they go round)");
        is("999^4", valueOf("999*999*999*999/999/999"), clamp(999 * 999 * 999 * 999 / 999 / 999));
        is("2^31", valueOf("512*512*512*16/512/512/512"), clamp(512 * 512 * 512 * 16 / 512 / 512 / 512));
        is("2^31 / -1", valueOf("512*512*512*16/-1/512/512/512"), clamp(-(512 * 512 * 512 * 16) / 512 / 512 / 512));
        is("2^32", valueOf("512*512*512*32+7"), 7);
        is("2^31-1 and 1", valueOf("(512*512*512*16-1<0)*5"), 0);
        is("2^31 is below 0", valueOf("(512*512*512*16<0)*5"), 5);
    }

    private static int clamp(int v) {
        return Math.max(-999, Math.min(999, v));
    }

    private static void ruleOfThingAndRoom() {
        says("Terms: i the THING's number, b BULK, w WIDTH, g WEIGHT, k how many SETS it is in, r the ROOM's number, z SIZE, d how many DOORS, h");
        fresh("r20;r30;r40;d1-0=4;d1-2=1", "5,2,3@0;7,4,6@1;sab;sb;sa;sb");
        String[] told = {"i 1", "b 7", "w 4", "g 6", "k 3", "r 1", "z 30", "d 2", "h 1"};
        for (String one : told) {
            is(one, rule(one.substring(0, 1)), 0);
            is(one, thing(1, 6), Integer.parseInt(one.substring(2)));
        }
        for (String one : new String[] {"i 0", "b 5", "w 2", "g 3", "k 2", "r 0", "z 20", "d 1", "h 1"}) {
            is(one, rule(one.substring(0, 1)), 0);
            is(one, thing(0, 6), Integer.parseInt(one.substring(2)));
        }
        says("Terms: h 1 if the THING is there now");
        fresh("r9;r9;3,1,1@0;3,1,1@1");
        rule("0-h");
        is("best", x.best(), 1);
        rowIs(0, 1, 0);
        rule("h*2");
        is("best", x.best(), 1);
        rowIs(4, 0, 1);
        says("Terms: k how many SETS it is in; d how many DOORS it has");
        rule("k*10+d");
        is("none", thing(0, 6), 0);
        is("house", house("sa;d0-1=1"), 2);
        is("now", thing(0, 6), 11);
        x.breaks(0);
        x.widen(0, 1, 0);
        is("no more", thing(0, 6), 0);
    }

    // ---- promises 6 to 10

    private static void rooms() {
        fresh("r10;r7;r8;r9;d0-1=1;d1-2=9", "6,1,1@1;2,1,1@1;8,1,1@2");
        says("6: what 0: SIZE");
        is("size", room(0, 0) + room(3, 0) * 100, 910);
        says("6: 1: THINGS in it (bits)");
        is("things", room(0, 1) * 100 + room(1, 1) * 10 + room(2, 1), 34);
        is("none", room(0, 1), 0);
        says("6: 2: how much SIZE is free (below 0: it is too full)");
        is("empty", room(0, 2), 10);
        is("too full", room(1, 2), -1);
        is("just full", room(2, 2), 0);
        says("6: 3: ROOMS to which it has DOORS (bits)");
        is("doors", room(0, 3) * 100 + room(1, 3) * 10 + room(2, 3), 252);
        is("none", room(3, 3), 0);
        says("6: NoSuchElementException: none such, another what");
        String before = state();
        for (int r : new int[] {-1, 4, 5, 6, MAX, MIN}) {
            is("room " + r, room(r, 0), THROWN);
        }
        for (int what : new int[] {-1, 4, MAX, MIN}) {
            is("what " + what, room(0, what), THROWN);
        }
        is("changes nothing", before.equals(state()), true);
    }

    private static void things() {
        fresh("r10;r7", "6,1,4@1;2,9,1@1;8,3,9@0;sac;sc;sb");
        int[][] want = {{6, 1, 4, 1, 1, 0, 0}, {2, 9, 1, 1, 4, 1, 0}, {8, 3, 9, 0, 3, 0, 0}};
        says("7: what 0: BULK, 1: WIDTH, 2: WEIGHT, 3: the ROOM, 4: SETS (bits), 5: its CLUMP, 6: WORTH");
        for (int t = 0; t < 3; t++) {
            for (int what = 0; what < 7; what++) {
                is("thing " + t + " " + what, thing(t, what), want[t][what]);
            }
        }
        rule("z-b");
        is("worth where it is", thing(0, 6) * 100 + thing(2, 6), 102);
        says("7: NoSuchElementException: none such, another what");
        String before = state();
        for (int t : new int[] {-1, 3, 9, 10, MAX, MIN}) {
            is("thing " + t, thing(t, 0), THROWN);
        }
        for (int what : new int[] {-1, 7, MAX, MIN}) {
            is("what " + what, thing(0, what), THROWN);
        }
        is("changes nothing", before.equals(state()), true);
    }

    private static void sets() {
        says("8: THINGS of a SET (bits)");
        fresh("r9;1,1,1@0;1,1,1@0;sb;sab;sa");
        is("sets", x.set(0) * 100 + x.set(1) * 10 + x.set(2), 231);
        is("breaks", x.breaks(0), 2);
        is("none of it left", x.set(2), 0);
        says("8: NONE: none such");
        refusedAll("set", x::set, -1, 3, 7, 8, MAX, MIN);
    }

    private static void doors() {
        says("9: WIDTH of the DOOR between two ROOMS");
        fresh("r1;r2;r3;d0-2=4");
        is("door", x.door(0, 2) * 10 + x.door(2, 0), 44);
        says("9: -2: there is none");
        stays("door", -2, () -> x.door(0, 1));
        stays("door", -2, () -> x.door(2, 1));
        says("9: NONE: none such, like ones");
        refusedAll("door", r -> x.door(0, r), -1, 3, 6, MAX, MIN, 0);
        refusedAll("door", r -> x.door(r, 1), -1, 3, 6, MAX, MIN, 1);
        refused("both not there", () -> x.door(7, 7));
    }

    private static void widening() {
        says("10: The DOOR between two unlike ROOMS is so wide (1 .. 9), or there is none (0): what it was (0: none)");
        fresh("r1;r2;r3;d0-2=4");
        is("new", x.widen(0, 1, 1), 0);
        is("there", x.door(1, 0), 1);
        is("9", x.widen(1, 0, 9), 1);
        is("there", x.door(0, 1), 9);
        is("doors", x.count(3), 2);
        is("none", x.widen(0, 1, 0), 9);
        is("none still", x.widen(1, 0, 0), 0);
        is("not there", x.door(0, 1), -2);
        is("doors", x.count(3), 1);
        says("10: Refused: others");
        refusedAll("width", w -> x.widen(0, 2, w), -1, 10, MAX, MIN);
        refusedAll("room", r -> x.widen(0, r, 5), 0, -1, 3, 6, MAX, MIN);
        refusedAll("room", r -> x.widen(r, 2, 5), 2, -1, 3, 6, MAX, MIN);
    }

    // ---- promises 11 and 12

    private static void strengths() {
        says("11: STRENGTH becomes v (1 .. 999): what it was");
        fresh();
        is("1", x.strength(1), 999);
        is("999", x.strength(999), 1);
        is("500", x.strength(500), 999);
        is("500", x.count(11), 500);
        says("11: Refused: others");
        refusedAll("strength", x::strength, 0, 1000, -1, MAX, MIN);
    }

    private static int weights() {
        int all = 0;
        for (int t = 0; t < x.count(1); t++) {
            all = all * 10 + thing(t, 2);
        }
        return all;
    }

    private static void sheetKinds() {
        says("12: bytes (kind 0) .. the lowest bits, with their sign; put to 1 .. 9");
        fresh("r9", "1,1,7@0;1,1,8@0;1,1,9@0;1,1,5@0");
        is("as they are", x.sheet(0, 4, 2, 2), 2 + 4 + 6 + 8);
        is("weights", weights(), 2468);
        is("127, 128", x.sheet(0, 4, 127, 1), 9 + 1 + 1 + 1);
        is("255, 256, 257, 258", x.sheet(0, 4, 255, 1), 1 + 1 + 1 + 2);
        is("256 and 5", x.sheet(0, 4, 256 + 5, 256), 4 * 5);
        is("-256 and 5", x.sheet(0, 4, -256 + 5, 0), 4 * 5);
        says("12: shorts (1)");
        is("127, 128", x.sheet(1, 4, 127, 1), 4 * 9);
        is("32767, 32768", x.sheet(1, 4, 32767, 1), 9 + 1 + 1 + 1);
        is("65535 ..", x.sheet(1, 4, 65535, 1), 1 + 1 + 1 + 2);
        is("65536 and 5", x.sheet(1, 4, 65536 + 5, -65536), 4 * 5);
        says("12: ints (2)");
        is("65536", x.sheet(2, 4, 65536, 0), 4 * 9);
        is("below 0", x.sheet(2, 4, -5, 5), 1 + 1 + 5 + 9);
        is("they go round", x.sheet(2, 4, MAX, 1), 9 + 1 + 1 + 1);
        is("steps go round", x.sheet(2, 4, 1, 1431655766), 1 + 9 + 1 + 3);
        is("weights", weights(), 1913);
        is("steps go round", x.sheet(2, 4, 5, MIN), 5 + 1 + 5 + 1);
        says("12: put to 1 .. 9");
        is("0, 1, 2, 3", x.sheet(2, 4, 0, 1), 1 + 1 + 2 + 3);
        is("8, 9, 10, 11", x.sheet(2, 4, 8, 1), 8 + 9 + 9 + 9);
    }

    private static void sheetEdges() {
        fresh("r9", "1,1,7@0;1,1,8@0;1,1,9@0");
        says("12: those behind it have 1: the sum of all that there are");
        is("two of three", x.sheet(0, 2, 5, 1), 5 + 6 + 1);
        is("weights", weights(), 561);
        is("n of 0", x.sheet(1, 0, 5, 1), 3);
        is("weights", weights(), 111);
        says("12: (entries beyond them are left aside)");
        is("ten for three", x.sheet(2, 10, 4, 1), 4 + 5 + 6);
        is("nine for three", x.sheet(1, 9, 2, 0), 6);
        x.sheet(2, 3, 5, 1);
        says("12: -2: n below 0 (of kinds 0 .. 2; nothing changes)");
        for (int kind = 0; kind < 3; kind++) {
            int of = kind;
            stays("n of -1", -2, () -> x.sheet(of, -1, 3, 3));
            stays("the least n", -2, () -> x.sheet(of, MIN, 3, 3));
        }
        says("12: NONE: another kind, n above 10 (these first)");
        refusedAll("n", n -> x.sheet(0, n, 3, 3), 11, 12, MAX);
        refusedAll("n, missing", n -> x.sheet(3, n, 3, 3), 11, MAX);
        refusedAll("kind", k -> x.sheet(k, 3, 3, 3), -1, 4, MAX, MIN);
        refusedAll("kind, n below 0", k -> x.sheet(k, -1, 3, 3), -1, 4);
        says("12: a missing one (3): -3: missing (all 1)");
        x.clumps();
        for (int n : new int[] {0, 3, 10, -1, MIN}) {
            x.sheet(2, 3, 5, 1);
            is("missing", x.sheet(3, n, 5, 5), -3);
            is("all 1", weights(), 111);
        }
        says("2: The ROW stays with each number below 0 that tells why there is no answer");
        rowIs(1, 2, 4);
        says("12: the sum of all that there are");
        is("new THINGS have their own", house("1,1,6@0"), 1);
        is("weights", weights(), 1116);
    }
}
