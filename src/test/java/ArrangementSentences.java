/** Promises 18 to 35, sentence by sentence: each that names an edge, or what is refused. */
public final class ArrangementSentences extends Asking {
    private static final int MIN = Integer.MIN_VALUE;
    private static final int MAX = Integer.MAX_VALUE;

    public static void main(String[] args) {
        clumps();
        heaviest();
        without();
        breaks();
        ties();
        lawfulOnes();
        powers();
        tooMany();
        best();
        near();
        guest();
        space();
        could();
        couldInSets();
        may();
        together();
        fullest();
        swap();
        sell();
        sellLeast();
        build();
        finish();
    }

    /** CLUMP 0 is a and c, CLUMP 1 is b; LAWFUL: CLUMP 0 in 0 or 2, b not with it but in ROOM 2. */
    private static void freshFive() {
        fresh("r9;r5;r11", "5,1,1@0;4,1,1@0;2,1,1@2;sac");
    }

    /** No ARRANGEMENT is LAWFUL. */
    private static void freshNone() {
        fresh("r5;r6", "3,1,1@0;7,1,1@1");
        x.clumps();
    }

    // ---- promises 18 to 22

    private static void clumps() {
        says("18: How many CLUMPS there are; the ROW: of each its THINGS (bits)");
        fresh("r9");
        is("none", x.clumps(), 0);
        rowIs();
        is("ten", house("1,1,1@0;".repeat(8) + "1,1,1@0") + house("1,1,1@0"), 10);
        is("alone", x.clumps(), 10);
        rowIs(1, 2, 4, 8, 16, 32, 64, 128, 256, 512);
        says("Terms: THINGS that hang together by SETS; CLUMPS are numbered by their least THINGS");
        is("one", house("sbj"), 1);
        is("clumps", x.clumps(), 9);
        rowIs(1, 2 | 512, 4, 8, 16, 32, 64, 128, 256);
        is("of j", thing(9, 5), 1);
        is("of i", thing(8, 5), 8);
        is("three", house("sef;sdh;sej"), 3);
        is("clumps", x.clumps(), 6);
        rowIs(1, 2 | 16 | 32 | 512, 4, 8 | 128, 64, 256);
        says("Terms: they hang together through others, whatever the order of SETS");
        fresh("r9", "1,1,1@0;".repeat(8) + "1,1,1@0", "1,1,1@0;shi;sgh;sfg;sef;sde;scd;sbc;sab");
        is("a chain", x.clumps(), 2);
        rowIs(511, 512);
        fresh("r9", "1,1,1@0;".repeat(8) + "1,1,1@0", "1,1,1@0;sbc;sdi;sab;scd;shi;sgh;sfg;sfj");
        is("a chain", x.clumps(), 2);
        rowIs(1 | 2 | 4 | 8 | 256 | 128 | 64 | 32 | 512, 16);
        says("Terms: (a THING in none is one by itself)");
        is("e", thing(4, 5), 1);
    }

    private static void heaviest() {
        says("19: The CLUMP with the most BULK; the ROW: that BULK, ROOMS that are not too small for it (bits)");
        fresh("r9;r8;r10;r7", "5,1,1@0;8,1,1@0;4,1,1@0;sac");
        is("the first", x.heaviest(), 0);
        rowIs(9, 1 | 4);
        is("more", house("2,1,1@0;sbd"), 2);
        is("the second", x.heaviest(), 1);
        rowIs(10, 4);
        is("more", house("1,1,1@0;sbde"), 2);
        is("too great for all", x.heaviest(), 1);
        rowIs(11, 0);
        says("19: of equal ones the first");
        is("more", house("2,1,1@0;sacf"), 2);
        is("equal", x.heaviest(), 0);
        rowIs(11, 0);
        fresh("r9", "1,1,1@0");
        is("alone", x.heaviest(), 0);
        rowIs(1, 1);
        says("19: -2: no THINGS");
        fresh("r9");
        x.evening();
        stays("no THINGS", -2, x::heaviest);
    }

    private static void without() {
        says("20: How many CLUMPS there would be, if a THING was gone; the ROW: SETS (bits) that would have none left");
        fresh("r9", "1,1,1@0;1,1,1@0;1,1,1@0;1,1,1@0;sab;sbc;sb;sd;sbd");
        is("the middle one", x.without(1), 3);
        rowIs(4);
        is("an end", x.without(0), 1);
        rowIs(0);
        is("d", x.without(3), 1);
        rowIs(8);
        is("the clumps there are", x.clumps(), 1);
        is("a chain through others", house("sac;sb;sb"), 3);
        is("the middle one", x.without(1), 2);
        rowIs(4 | 64 | 128);
        is("it is there still", x.count(1), 4);
        fresh("r9", "1,1,1@0");
        is("the only one", x.without(0), 0);
        rowIs(0);
        is("in all SETS", house("sa;sa;sa;sa;sa;sa;sa;sa"), 8);
        is("the only one", x.without(0), 0);
        rowIs(255);
        says("20: (NOTES: a SET that has none left already would have none left, too)");
        x.breaks(0);
        is("another", house("1,1,1@0"), 1);
        is("gone", x.without(1), 1);
        rowIs(255);
        fresh("r9", "1,1,1@0");
        says("20: NONE: none such");
        refusedAll("without", x::without, -1, 1, 9, 10, MAX, MIN);
    }

    private static void breaks() {
        says("21: A THING breaks: it is in no SET any more: how many CLUMPS there are then");
        fresh("r9", "1,1,1@0;1,1,1@0;1,1,1@0;1,1,1@0;sab;sbc;sb;sbd");
        x.evening();
        is("breaks", x.breaks(1), 4);
        is("sets", x.set(0) + x.set(1) * 10 + x.set(2) * 100 + x.set(3) * 1000, 1 + 40 + 0 + 8000);
        is("in none", thing(1, 4), 0);
        is("how many SETS there are", x.count(2), 4);
        is("where it is", thing(1, 3), 0);
        is("once more", x.breaks(1), 4);
        is("one in none", x.breaks(0), 4);
        says("21: (it tells no ROW)");
        rowIs(0, 0);
        says("21: (CLUMPS are numbered by their least THINGS)");
        fresh("r9", "1,1,1@0;1,1,1@0;1,1,1@0;1,1,1@0;sac;scd");
        is("two", thing(1, 5) * 10 + thing(3, 5), 10);
        is("breaks", x.breaks(0), 3);
        is("three", thing(1, 5) * 10 + thing(3, 5), 12);
        says("21: NONE: none such");
        refusedAll("breaks", x::breaks, -1, 4, 9, 10, MAX, MIN);
    }

    private static void ties() {
        says("22: SETS (bits) without which alone there would be more CLUMPS");
        fresh("r9", "1,1,1@0;1,1,1@0;1,1,1@0;1,1,1@0");
        is("no SETS", x.ties(), 0);
        is("house", house("sab"), 1);
        is("one", x.ties(), 1);
        is("house", house("sa;sd"), 2);
        is("one of one THING is none", x.ties(), 1);
        is("house", house("sab"), 1);
        is("two like ones: neither alone", x.ties(), 0);
        is("house", house("sbc"), 1);
        is("another", x.ties(), 16);
        is("house", house("scd"), 1);
        is("two", x.ties(), 16 | 32);
        x.breaks(3);
        is("house", house("sac"), 1);
        is("round", x.ties(), 0);
        is("house", house("sad"), 1);
        is("the last", x.ties(), 128);
        x.breaks(3);
        is("not so any more", x.ties(), 0);
    }

    // ---- promises 23 to 27

    private static void lawfulOnes() {
        says("23: How many are LAWFUL; the ROW: the least row of them (none without)");
        freshFive();
        is("fits", x.fits(), 5);
        rowIs(0, 1, 0);
        freshNone();
        is("none", x.fits(), 0);
        rowIs();
        says("Terms: no ROOM is too full (BULKS in it are more than its SIZE)");
        fresh("r5", "3,1,1@0;2,1,1@0");
        is("just full", x.fits(), 1);
        rowIs(0, 0);
        is("one more", house("1,1,1@0"), 1);
        is("too full", x.fits(), 0);
        says("Terms: no SET is parted (all of it is in one ROOM)");
        fresh("r5;r5", "3,1,1@0;3,1,1@0;sab");
        is("none", x.fits(), 0);
        is("breaks", x.breaks(0), 2);
        is("two", x.fits(), 2);
        rowIs(0, 1);
        says("Terms: Questions about ARRANGEMENTS do not ask how THINGS would come there");
        is("no DOORS", x.count(3), 0);
        says("24: WORTH of the one that is now");
        rule("b*2-r");
        is("both in 0", x.worth(), 12);
        rule("");
        is("no rule", x.worth(), 0);
        rule("0-999");
        is("the sum is not put to -999", x.worth(), -1998);
    }

    private static void powers() {
        says("Terms: ROOMS to the power of CLUMPS above 20000: -3");
        int[][] most = {{6, 5, 7776}, {5, 6, 15625}, {4, 7, 16384}, {3, 9, 19683}};
        for (int[] m : most) {
            fresh("r99" + ";r99".repeat(m[0] - 1), "1,1,1@0" + ";1,1,1@0".repeat(m[1] - 1));
            is(m[0] + " to the power of " + m[1], x.fits(), m[2]);
            is("one more", house("1,1,1@0"), 1);
            stays("above", -3, x::fits);
            is("CLUMPS, not THINGS", house("sab") + x.fits(), 1 + m[2]);
        }
        fresh("r99;r99", "1,1,1@0" + ";1,1,1@0".repeat(8), "1,1,1@0");
        is("2 to the power of 10", x.fits(), 1024);
        fresh("r99", "1,1,1@0" + ";1,1,1@0".repeat(8), "1,1,1@0");
        is("1 to the power of 10", x.fits(), 1);
        rowIs(0, 0, 0, 0, 0, 0, 0, 0, 0, 0);
    }

    private static void tooMany() {
        fresh("r9;r9;r9;r9;r9;r9", "1,1,1@0;1,1,1@0;1,1,1@0;1,1,1@0;1,1,1@0;1,1,1@0");
        x.evening();
        says("23 to 35: -3");
        stays("fits", -3, x::fits);
        stays("best", -3, x::best);
        stays("near", -3, x::near);
        stays("guest", -3, () -> x.guest(5, 9));
        stays("space", -3, x::space);
        stays("could", -3, () -> x.could(99, 0));
        stays("may", -3, () -> x.may(5));
        stays("together", -3, () -> x.together(0, 5));
        stays("fullest", -3, () -> x.fullest(5));
        stays("sell", -3, x::sell);
        stays("build", -3, x::build);
        says("2: NONE is asked ahead of other answers below 0");
        refused("guest", () -> x.guest(6, 0));
        refused("guest", () -> x.guest(0, 100));
        refused("could", () -> x.could(0, 0));
        refused("could", () -> x.could(1, 1));
        refused("may", () -> x.may(6));
        refused("together", () -> x.together(0, 6));
        refused("together", () -> x.together(3, 3));
        refused("fullest", () -> x.fullest(6));
        says("29: (NOTES: -3 counts the CLUMPS there are, not the new THING)");
        fresh("r9;r9;r9;r9;r9;r9", "1,1,1@0;1,1,1@0;1,1,1@0;1,1,1@0;1,1,1@0");
        is("6 to the power of 5", x.could(9, 0), 63);
        says("33: (no -3)");
        fresh("r9;r9;r9;r9;r9;r9", "1,1,1@0;1,1,1@0;1,1,1@0;1,1,1@0;1,1,1@0;1,1,1@0");
        is("swap", x.swap(0, 1), 1);
        is("worth", x.worth(), 0);
    }

    private static void best() {
        says("25: The most WORTH of a LAWFUL one; the answer 1, the ROW: it, then the ARRANGEMENT");
        freshFive();
        rule("b*r");
        is("best", x.best(), 1);
        rowIs(2 * 11, 2, 2, 2);
        rule("0-b*r");
        is("best", x.best(), 1);
        rowIs(-4, 0, 1, 0);
        says("2: a number below 0 that is meant as such comes with its ROW");
        rule("0-99-r*i");
        is("below 0", x.best(), 1);
        rowIs(-297 - 1, 0, 1, 0);
        says("25: of as good ones the least row");
        rule("7");
        is("all as good", x.best(), 1);
        rowIs(21, 0, 1, 0);
        rule("r=2");
        is("best", x.best(), 1);
        rowIs(3, 2, 2, 2);
        rule("i=1");
        is("as good", x.best(), 1);
        rowIs(1, 0, 1, 0);
        rule("");
        is("no rule", x.best(), 1);
        rowIs(0, 0, 1, 0);
        rule("999");
        is("a sum of WORTHS", x.best(), 1);
        rowIs(2997, 0, 1, 0);
        says("25: -2: none is");
        freshNone();
        stays("none", -2, x::best);
    }

    private static void near() {
        says("26: The least to be carried to a LAWFUL one (each THING by its STEPS, to where it gets): it; the ROW: the ARRANGEMENT");
        fresh("r5;r6;r4;d0-1=2;d1-2=2", "3,2,1@0;3,1,4@0;2,2,1@0");
        is("near", x.near(), 1);
        rowIs(1, 0, 0);
        x.carry(0, 1);
        is("as it is", x.near(), 0);
        rowIs(1, 0, 0);
        says("26: of as little the least row");
        fresh("r3;r3;r3;d0-1=2;d1-2=2", "3,1,2@1;3,1,2@1");
        is("as little", x.near(), 2);
        rowIs(0, 1);
        says("26: each THING by its STEPS: those of a CLUMP from where each is");
        fresh("r9;r9;r9;d0-1=2;d1-2=2", "3,1,2@0;3,1,9@2;1,1,1@1;sab");
        is("a goes", x.near(), 4);
        rowIs(2, 2, 1);
        x.sheet(2, 3, 9, -4);
        is("b goes", x.near(), 10);
        rowIs(0, 0, 1);
        says("26: to where it gets");
        x.widen(1, 2, 0);
        stays("none of a CLUMP can meet", -2, x::near);
        x.breaks(0);
        is("apart", x.near(), 0);
        rowIs(0, 2, 1);
        says("26: -2: none is come to so");
        fresh("r5;r5;d0-1=1", "3,1,1@0;3,2,1@0");
        is("the narrow one", x.near(), 1);
        rowIs(1, 0);
        x.widen(0, 1, 0);
        is("there are two", x.fits(), 2);
        stays("no DOOR", -2, x::near);
        freshNone();
        stays("none LAWFUL", -2, x::near);
    }

    private static void guest() {
        says("27: The same so that a ROOM has SIZE free of so much (0 .. 99) or more");
        fresh("r5;r6;r4;d0-1=2;d1-2=2", "3,2,1@0;3,1,4@0;2,2,1@0");
        is("0", x.guest(2, 0), 1);
        rowIs(1, 0, 0);
        is("just so much", x.guest(1, 6), 2);
        rowIs(2, 0, 0);
        stays("one more", -2, () -> x.guest(1, 7));
        is("or more", x.guest(0, 1), 2);
        rowIs(1, 0, 1);
        is("just so much", x.guest(0, 2), 2);
        rowIs(1, 0, 1);
        is("just so much", x.guest(0, 3), 5);
        rowIs(1, 1, 0);
        is("4 of 4", x.guest(2, 4), 1);
        stays("5 of 4", -2, () -> x.guest(2, 5));
        stays("99", -2, () -> x.guest(2, 99));
        fresh("r99;r9", "1,1,1@1");
        is("99 of 99", x.guest(0, 99), 0);
        rowIs(1);
        says("27: NONE: others");
        refusedAll("free", n -> x.guest(0, n), -1, 100, MAX, MIN);
        refusedAll("room", r -> x.guest(r, 0), -1, 2, 6, MAX, MIN);
        says("2: NONE is asked ahead of other answers below 0");
        freshNone();
        refused("none such", () -> x.guest(2, 0));
        stays("none", -2, () -> x.guest(1, 0));
        stays("none", -2, () -> x.guest(1, 99));
    }

    // ---- promises 28 to 32

    private static void space() {
        says("28: The most SIZE that can be free in some ROOM in a LAWFUL one: it; the ROW: the first ROOM in which, the least row with it");
        freshFive();
        is("space", x.space(), 11);
        rowIs(2, 0, 1, 0);
        is("more", house("1,1,1@0"), 1);
        is("the least row with it", x.space(), 11);
        rowIs(2, 0, 1, 0, 0);
        fresh("r4;r9;r9", "4,1,1@2;4,1,1@1");
        is("the first ROOM", x.space(), 9);
        rowIs(1, 0, 2);
        fresh("r5;r5", "5,1,1@0;5,1,1@0");
        is("none is free", x.space(), 0);
        rowIs(0, 0, 1);
        fresh("r3;r7;r7");
        is("no THINGS", x.space(), 7);
        rowIs(1);
        says("28: -2: none is, no ROOMS");
        freshNone();
        stays("none", -2, x::space);
        fresh();
        x.evening();
        stays("no ROOMS", -2, x::space);
    }

    private static void could() {
        says("29: ROOMS (bits) in which a new THING of a BULK (1 .. 99) can be in a LAWFUL one");
        fresh("r9;r5;r9", "5,1,1@0;4,1,1@1;2,1,1@0;sac");
        x.evening();
        is("1", x.could(1, 0), 7);
        is("5", x.could(5, 0), 7);
        is("6", x.could(6, 0), 5);
        is("9", x.could(9, 0), 5);
        stays("10", 0, () -> x.could(10, 0));
        stays("99", 0, () -> x.could(99, 0));
        fresh("r99;r98", "98,1,1@0");
        is("99", x.could(99, 0), 1);
        is("98", x.could(98, 0), 3);
        is("1", x.could(1, 0), 3);
        says("29: (a new THING where there are ten)");
        fresh("r9;r5", "1,1,1@0" + ";1,1,1@0".repeat(8), "1,1,1@0");
        is("4", x.could(4, 0), 3);
        is("5", x.could(5, 0), 0);
        says("29: (none LAWFUL: none)");
        freshNone();
        stays("1", 0, () -> x.could(1, 0));
        says("29: NONE: others");
        refusedAll("bulk", b -> x.could(b, 0), 0, -1, 100, MAX, MIN);
        refusedAll("no such SET", s -> x.could(1, s), 1, 2, 255, -1, MAX, MIN);
    }

    private static void couldInSets() {
        says("29: that is in SETS told as bits");
        fresh("r9;r5;r9", "5,1,1@0;4,1,1@1;2,1,1@0;sac;sb;sa");
        is("2 in the first", x.could(2, 1), 5);
        is("3 in the first", x.could(3, 1), 0);
        is("1 in the second", x.could(1, 2), 7);
        is("2 in the second", x.could(2, 2), 5);
        is("5 in the second", x.could(5, 2), 5);
        is("6 in the second", x.could(6, 2), 0);
        is("2 in that of a alone", x.could(2, 4), 5);
        is("3 in that of a alone", x.could(3, 4), 0);
        is("first and third", x.could(2, 5), 5);
        is("all, too great together", x.could(1, 7), 0);
        refusedAll("no such SET", s -> x.could(1, s), 8, 9, 15, -1, MIN);
        is("a SET that has none left", x.breaks(1), 2);
        is("by itself", x.could(9, 2), 5);
        fresh("r12;r5", "5,1,1@0;4,1,1@1;sa;sb");
        is("both hang together then", x.could(3, 3), 1);
        is("4", x.could(4, 3), 0);
    }

    private static void may() {
        says("30: ROOMS (bits) in which a CLUMP is in some LAWFUL one; the ROW: in how many it is in the ROOM where its least THING is now");
        freshFive();
        is("clump 0", x.may(0), 5);
        rowIs(2);
        is("clump 1", x.may(1), 7);
        rowIs(1);
        x.widen(0, 2, 5);
        x.carry(0, 2);
        is("clump 0, there", x.may(0), 5);
        rowIs(3);
        x.carry(1, 2);
        is("clump 1, there", x.may(1), 7);
        rowIs(2);
        says("30: where its least THING is now (not LAWFUL there)");
        x.widen(2, 1, 5);
        x.carry(0, 1);
        is("clump 0", x.may(0), 5);
        rowIs(0);
        freshNone();
        is("none", x.may(0), 0);
        rowIs(0);
        says("30: NONE: none such");
        refusedAll("clump", x::may, -1, 2, 9, 10, MAX, MIN);
    }

    private static void together() {
        says("31: In how many LAWFUL ones two unlike THINGS are in one ROOM; the ROW: how many there are");
        freshFive();
        is("of one CLUMP", x.together(0, 2), 5);
        rowIs(5);
        is("once", x.together(1, 0), 1);
        rowIs(5);
        is("once", x.together(1, 2), 1);
        freshNone();
        is("none", x.together(0, 1), 0);
        rowIs(0);
        says("31: NONE: none such, like ones");
        refusedAll("other", t -> x.together(0, t), 0, -1, 2, 10, MAX, MIN);
        refusedAll("one", t -> x.together(t, 1), 1, -1, 2, 10, MAX, MIN);
    }

    private static void fullest() {
        says("32: The most BULK that can be in a ROOM in a LAWFUL one: it; the ROW: the least row with it");
        freshFive();
        is("0", x.fullest(0), 7);
        rowIs(0, 1, 0);
        is("1", x.fullest(1), 4);
        rowIs(0, 1, 0);
        is("2", x.fullest(2), 11);
        rowIs(2, 2, 2);
        fresh("r5;r4", "5,1,1@0;5,1,1@0");
        says("32: -2: none is");
        x.clumps();
        stays("none", -2, () -> x.fullest(0));
        fresh("r5;r4", "5,1,1@1");
        says("32: it (0, too)");
        is("nothing", x.fullest(1), 0);
        rowIs(0);
        says("32: NONE: none such (ahead of -2)");
        freshNone();
        refusedAll("room", x::fullest, -1, 2, 5, 6, MAX, MIN);
    }

    // ---- promises 33 to 35

    private static void swap() {
        says("33: If all THINGS of two unlike ROOMS changed places: 1: it would be LAWFUL, 0: not; the ROW: what would be carried");
        fresh("r9;r5;r9;d0-1=2;d1-2=2", "5,1,1@0;4,1,3@1;2,2,2@0;sac");
        is("too full then", x.swap(0, 1), 0);
        rowIs(1 + 3 + 2);
        is("two STEPS", x.swap(2, 0), 1);
        rowIs(2 + 4);
        is("one", x.swap(1, 2), 1);
        rowIs(3);
        is("nothing is done", x.count(5) * 100 + room(0, 1) * 10 + room(1, 1), 52);
        says("33: NONE: some THING does not get there");
        x.widen(1, 2, 1);
        is("LAWFUL all the same", x.swap(0, 2), 1);
        rowIs(NONE);
        x.widen(0, 1, 0);
        is("not LAWFUL", x.swap(0, 1), 0);
        rowIs(NONE);
        says("33: (one ROOM empty, both)");
        is("house", house("r1;r1"), 2);
        is("both empty", x.swap(3, 4), 1);
        rowIs(0);
        says("33: a SET that is parted");
        x.widen(0, 1, 2);
        x.carry(2, 1);
        is("parted still", x.swap(0, 2), 0);
        says("33: NONE: others");
        refusedAll("other", r -> x.swap(0, r), 0, -1, 5, 6, MAX, MIN);
        refusedAll("one", r -> x.swap(r, 1), 1, -1, 5, 6, MAX, MIN);
    }

    private static void sell() {
        says("34: 0: none has to be");
        freshFive();
        x.evening();
        is("none", x.sell(), 0);
        rowIs(0);
        fresh("r9");
        is("no THINGS", x.sell(), 0);
        rowIs(0);
        says("34: The fewest THINGS to be sold, whole CLUMPS alone: how many; the ROW: they (bits)");
        fresh("r6", "2,1,1@0;2,1,1@0;2,1,1@0;3,1,1@0;3,1,1@0;sabc");
        is("two THINGS, not one CLUMP of three", x.sell(), 2);
        rowIs(8 | 16);
        fresh("r6", "5,1,1@0;1,1,1@0;6,1,1@0;sab");
        is("one THING", x.sell(), 1);
        rowIs(4);
        fresh("r5;r6", "3,1,1@0;3,1,1@0;3,1,1@0;sab");
        is("the whole CLUMP fits elsewhere", x.sell(), 0);
        fresh("r1", "2,1,1@0;2,1,1@0");
        is("all", x.sell(), 2);
        rowIs(3);
        fresh("r1", "2,1,1@0" + ";2,1,1@0".repeat(8), "2,1,1@0");
        is("all ten", x.sell(), 10);
        rowIs(1023);
        is("it is a question", x.count(1), 10);
    }

    private static void sellLeast() {
        says("34: of as few those with the least BULK together");
        fresh("r4", "3,1,1@0;2,1,1@0");
        is("b", x.sell(), 1);
        rowIs(2);
        fresh("r4", "2,1,1@0;3,1,1@0");
        is("a", x.sell(), 1);
        rowIs(1);
        fresh("r5", "4,1,1@0;2,1,1@0;3,1,1@0;1,1,1@0");
        is("two", x.sell(), 2);
        rowIs(2 | 4);
        says("34: then the least set");
        fresh("r5", "2,1,1@0;2,1,1@0;2,1,1@0");
        is("a", x.sell(), 1);
        rowIs(1);
        fresh("r4", "3,1,1@0;2,1,1@0;2,1,1@0;1,1,1@0");
        is("two", x.sell(), 2);
        rowIs(2 | 4);
        fresh("r4", "3,1,1@0;3,1,1@0;2,1,1@0;2,1,1@0;4,1,1@0");
        is("three", x.sell(), 3);
        rowIs(1 | 2 | 16);
        fresh("r3", "1,1,1@0;1,1,1@0;1,1,1@0;1,1,1@0;sad;sbc");
        is("a CLUMP of two", x.sell(), 2);
        rowIs(2 | 4);
    }

    private static void build() {
        says("35: The fewest inches of SIZE by which one ROOM has to be greater: how many; the ROW: the first such ROOM");
        fresh("r5", "6,1,1@0");
        is("1", x.build(), 1);
        rowIs(0);
        fresh("r5;r6", "3,1,1@0;7,1,1@1");
        is("1", x.build(), 1);
        rowIs(1);
        fresh("r4;r5;r5", "6,1,1@0;3,1,1@0");
        is("the first of equal ones", x.build(), 1);
        rowIs(1);
        fresh("r9;r2;r5", "5,1,1@0;9,1,1@0;4,1,1@0;sac");
        is("in another", x.build(), 4);
        rowIs(2);
        says("35: (0: none); the ROW: (NONE for 0)");
        freshFive();
        x.evening();
        is("none", x.build(), 0);
        rowIs(NONE);
        fresh("r5");
        is("no THINGS", x.build(), 0);
        rowIs(NONE);
        says("35: -2: no ROOMS, or 99 more in one do not do");
        fresh("r99", "99,1,1@0;99,1,1@0");
        is("99", x.build(), 99);
        rowIs(0);
        is("house", house("1,1,1@0"), 1);
        stays("100", -2, x::build);
        fresh("r5;r5", "90,1,1@0;91,1,1@0");
        is("both in one would be too much", x.build(), -2);
        fresh("r5;r5", "6,1,1@0;60,1,1@0");
        is("both in one", x.build(), 61);
        rowIs(0);
        fresh();
        x.evening();
        stays("no ROOMS", -2, x::build);
    }
}
