/** Promises 36 to 48, sentence by sentence: each that names an edge, or what is refused. */
public final class AimSentences extends Asking {
    private static final int MIN = Integer.MIN_VALUE;
    private static final int MAX = Integer.MAX_VALUE;

    public static void main(String[] args) {
        ways();
        leastWays();
        widest();
        stuck();
        hinge();
        hingeEdges();
        aims();
        aimFaults();
        apart();
        queue();
        queueOrders();
        queueUnanswered();
        evenings();
        eveningsLeast();
        eveningsOfClumps();
        eveningsAskedAgain();
        eveningsUnanswered();
        threeHundred();
        weakest();
        keeping();
        keptAfterChanges();
        counts();
        rows();
        finish();
    }

    // ---- promises 36 to 39

    private static void ways() {
        fresh("r9;r9;r9;r9;r9;r9;d0-5=5;d5-4=5;d4-3=4;d3-2=5;d2-1=5", "1,4,9@0;1,5,1@0;1,6,1@0");
        says("36: STEPS of a THING to a ROOM: how many; the ROW: ROOMS on the way, with the last one");
        is("five", x.way(0, 1), 5);
        rowIs(5, 4, 3, 2, 1);
        is("one", x.way(0, 5), 1);
        rowIs(5);
        says("Terms: STEPS (0: the same)");
        is("none", x.way(2, 0), 0);
        rowIs();
        says("36: -2: it does not get there");
        is("two", x.way(1, 4), 2);
        stays("too wide", -2, () -> x.way(1, 3));
        stays("too wide", -2, () -> x.way(2, 5));
        says("36: NONE: none such");
        refusedAll("thing", t -> x.way(t, 0), -1, 3, 9, 10, MAX, MIN);
        refusedAll("room", r -> x.way(2, r), -1, 6, 7, MAX, MIN);
        says("36: (from where it is now)");
        x.strength(999);
        x.carry(0, 3);
        is("back", x.way(0, 0), 3);
        rowIs(4, 5, 0);
    }

    private static void leastWays() {
        says("36: of as few the least row");
        fresh("r9;r9;r9;r9;r9;r9;d0-1=5;d0-2=5;d0-3=5;d2-4=5;d3-4=5", "1,1,1@0;1,4,1@0");
        is("not by 1", x.way(0, 4), 2);
        rowIs(2, 4);
        x.widen(0, 2, 3);
        is("the narrow one", x.way(0, 4), 2);
        rowIs(2, 4);
        is("the wide one", x.way(1, 4), 2);
        rowIs(3, 4);
        x.widen(1, 4, 3);
        is("the narrow one", x.way(0, 4), 2);
        rowIs(1, 4);
        x.widen(4, 5, 4);
        x.widen(3, 5, 4);
        is("a shorter one is ahead of a lesser one", x.way(1, 5), 2);
        rowIs(3, 5);
        x.widen(0, 5, 5);
        is("at once", x.way(1, 5), 1);
        rowIs(5);
    }

    private static void widest() {
        fresh("r9;r9;r9;r9;r9;d0-1=1;d1-2=9;d0-3=3;d3-2=4");
        says("37: The greatest WIDTH (0 .. 9; 0: none; the same ROOM: 9) of a THING that would get from one ROOM to another");
        is("9", x.widest(1, 2), 9);
        is("by others", x.widest(0, 2), 3);
        is("by others", x.widest(0, 1), 3);
        is("back", x.widest(2, 0), 3);
        is("none", x.widest(0, 4), 0);
        is("same", x.widest(4, 4), 9);
        is("same", x.widest(0, 0), 9);
        x.widen(0, 3, 0);
        is("1", x.widest(0, 2), 1);
        says("37: NONE: none such");
        refusedAll("other", r -> x.widest(0, r), -1, 5, 6, MAX, MIN);
        refusedAll("one", r -> x.widest(r, 0), -1, 5, 6, MAX, MIN);
        refused("the same one", () -> x.widest(5, 5));
    }

    private static void stuck() {
        says("38: THINGS (bits) that do not get to each ROOM from where they are");
        fresh("r9", "1,9,1@0");
        is("one ROOM", x.stuck(), 0);
        fresh("r9;r9;r9;d0-1=5;d1-2=3", "1,3,1@2;1,4,1@2;1,3,1@0;1,5,1@1;1,6,1@0");
        is("stuck", x.stuck(), 2 | 8 | 16);
        x.widen(0, 2, 9);
        is("round", x.stuck(), 16);
        x.widen(1, 2, 9);
        is("none", x.stuck(), 0);
        x.widen(0, 1, 0);
        is("none still", x.stuck(), 0);
        is("a ROOM came", house("r1"), 1);
        is("all", x.stuck(), 31);
    }

    private static void hinge() {
        says("39: The DOOR that, made 9 wide, lets the most THINGS get to one ROOM: its lesser ROOM; the ROW: the other one, how many then");
        fresh("r9;r9;r9;r9;d0-1=1;d1-2=1", "1,5,1@0;1,5,1@2;1,9,1@2;1,1,1@1");
        is("to 1", x.hinge(1), 1);
        rowIs(2, 3);
        is("to 0", x.hinge(0), 0);
        rowIs(1, 2);
        is("to 2", x.hinge(2), 0);
        rowIs(1, 3);
        is("to 3", x.hinge(3), 0);
        rowIs(1, 0);
        is("DOORS stay", x.door(0, 1) * 10 + x.door(1, 2), 11);
        says("39: of equal ones the first (the lesser ROOM, then the other one)");
        fresh("r9;r9;r9;d1-2=1;d0-2=1;d0-1=1", "1,1,1@0");
        is("equal", x.hinge(2), 0);
        rowIs(1, 1);
        x.widen(0, 1, 0);
        is("equal", x.hinge(2), 0);
        rowIs(2, 1);
        x.widen(0, 2, 0);
        is("alone", x.hinge(2), 1);
        rowIs(2, 0);
        says("39: more is ahead of first");
        fresh("r9;r9;r9;d1-2=1;d0-2=1;d0-1=1", "1,2,1@1;1,2,1@0;1,2,1@1");
        is("more", x.hinge(2), 1);
        rowIs(2, 2);
    }

    private static void hingeEdges() {
        says("39: -2: no DOORS");
        fresh("r9;r9;r9", "1,1,1@0");
        x.clumps();
        stays("no DOORS", -2, () -> x.hinge(0));
        says("39: NONE: no such ROOM");
        refusedAll("room", x::hinge, -1, 3, 6, MAX, MIN);
        is("a DOOR", x.widen(1, 2, 9), 0);
        refusedAll("room", x::hinge, -1, 3, 6, MAX, MIN);
        is("one", x.hinge(1), 1);
        rowIs(2, 0);
        is("one is there", x.hinge(0), 1);
        rowIs(2, 1);
    }

    // ---- promises 40 and 41

    private static void aims() {
        says("40: THE TEXT is THE AIM (an empty one: none): an ARRANGEMENT, a digit for each THING: how many");
        fresh("r9;r9;r9;r9;r9;r9", "1,1,1@0;".repeat(8) + "1,1,1@0", "1,1,1@0");
        is("ten", aim("0123454321"), 10);
        is("emptied", x.count(10), 0);
        is("there is one", x.apart(), -2);
        is("none", aim(""), 0);
        is("there is none", x.apart(), -4);
        fault("01234543210", 10, x::aim);
        fault("012345432", 9, x::aim);
        fault("0123454326", 9, x::aim);
        is("there is none still", x.apart(), -4);
        fresh("r9", "1,1,1@0");
        is("one", aim("0"), 1);
        is("there is one", x.apart(), 0);
        rowIs(1);
    }

    private static void aimFaults() {
        says("40: -1 - p: the sign at p can't stand there");
        fresh("r9;r9;r9;d0-1=5", "5,1,2@0;5,1,3@1;1,1,1@2");
        is("aim", aim("012"), 3);
        x.clumps();
        says("40: (its end, if there are more THINGS)");
        fault("0", 1, x::aim);
        fault("01", 2, x::aim);
        says("40: a ROOM that is not there");
        fault("3", 0, x::aim);
        fault("9", 0, x::aim);
        fault("013", 2, x::aim);
        fault("0130", 2, x::aim);
        fault("/12", 0, x::aim);
        fault("01:", 2, x::aim);
        fault("01a", 2, x::aim);
        fault("-12", 0, x::aim);
        says("40: more signs than THINGS: at the first of these");
        fault("0120", 3, x::aim);
        fault("012x", 3, x::aim);
        fault("012".repeat(26), 3, x::aim);
        says("2: Refused calls change nothing but THE TEXT");
        is("the AIM is what it was", x.apart(), 0);
        says("40: (no THINGS)");
        fresh("r9");
        fault("0", 0, x::aim);
        is("none", aim(""), 0);
        is("none", x.apart(), -4);
    }

    private static void apart() {
        says("41: What has to be carried from now to THE AIM, each THING by its STEPS: it; the ROW: 1 if it is LAWFUL, else 0");
        fresh("r9;r9;r9;d0-1=5;d1-2=4", "5,5,2@0;5,4,3@2;1,1,1@1;sbc");
        aim("011");
        is("LAWFUL", x.apart(), 3);
        rowIs(1);
        aim("021");
        is("as it is, parted", x.apart(), 0);
        rowIs(0);
        aim("112");
        is("parted", x.apart(), 2 + 3 + 1);
        rowIs(0);
        aim("111");
        is("too full", x.apart(), 2 + 3);
        rowIs(0);
        aim("100");
        is("two STEPS", x.apart(), 2 + 6 + 1);
        rowIs(1);
        says("41: (STRENGTH is not asked)");
        x.strength(1);
        is("more than STRENGTH", x.apart(), 9);
        says("41: -2: some THING does not get there");
        aim("200");
        stays("a", -2, x::apart);
        x.widen(0, 2, 5);
        is("now it does", x.apart(), 2 + 3 + 1);
        says("41: -4: no AIM (or THINGS came since)");
        is("ROOMS, SETS, DOORS may come", house("r9;sa;d0-3=1"), 3);
        is("apart", x.apart(), 6);
        is("a THING", house("1,1,1@0"), 1);
        x.clumps();
        stays("apart", -4, x::apart);
        stays("queue", -4, x::queue);
        stays("evenings", -4, x::evenings);
        stays("weakest", -4, x::weakest);
        is("told anew", aim("2000"), 4);
        is("apart", x.apart(), 6);
        is("none", aim(""), 0);
        stays("apart", -4, x::apart);
        stays("queue", -4, x::queue);
        stays("evenings", -4, x::evenings);
        stays("weakest", -4, x::weakest);
    }

    // ---- promise 42

    private static void queue() {
        says("42: CLUMPS that are not where THE AIM has them, carried there one behind the other: how many there are; the ROW: CLUMPS in order");
        fresh("r5;r5;r5;d0-1=5;d1-2=5", "5,1,1@0;5,1,1@1");
        aim("12");
        is("two", x.queue(), 2);
        rowIs(1, 0);
        aim("21");
        is("one", x.queue(), 1);
        rowIs(0);
        aim("02");
        is("one", x.queue(), 1);
        rowIs(1);
        aim("01");
        is("none", x.queue(), 0);
        rowIs();
        says("42: each wholly and at once");
        fresh("r9;r9;r9;d0-1=3;d1-2=5", "5,1,1@0;2,1,9@1;2,3,1@1;sbc");
        aim("122");
        x.strength(1);
        is("two", x.queue(), 2);
        rowIs(0, 1);
        says("42: (where LAWFUL is asked: behind each, not now)");
        fresh("r5;r5;d0-1=5", "4,1,1@0;4,1,1@0");
        aim("00");
        is("none goes", x.queue(), 0);
        rowIs();
        aim("01");
        is("one goes", x.queue(), 1);
        rowIs(1);
    }

    private static void queueOrders() {
        says("42: of all such orders the least row");
        fresh("r9;r9;r9;d0-1=5;d1-2=5", "1,1,1@0;1,1,1@1;1,1,1@2");
        aim("120");
        is("all can", x.queue(), 3);
        rowIs(0, 1, 2);
        says("42: so that the ARRANGEMENT is LAWFUL behind each: the first could, but then the rest can't");
        fresh("r5;r4;r3;d0-1=1;d1-2=1;d0-2=1", "2,1,1@0;2,1,1@2;2,1,1@1");
        aim("112");
        is("three", x.queue(), 3);
        rowIs(1, 2, 0);
        fresh("r4;r6;r2;d0-1=1;d1-2=1;d0-2=1", "2,1,1@0;1,1,1@1;2,1,1@2");
        aim("200");
        is("three", x.queue(), 3);
        rowIs(2, 0, 1);
    }

    private static void queueUnanswered() {
        fresh("r5;r6;r9;d0-1=5;d1-2=3", "5,4,1@0;5,1,1@1;1,1,1@1;sc");
        x.clumps();
        says("42: -2: there is none, or some THING does not get there");
        aim("101");
        stays("changing places", -2, x::queue);
        aim("211");
        stays("too wide", -2, x::queue);
        aim("112");
        stays("THE AIM is too full", -2, x::queue);
        says("42: -5: THE AIM, or the ARRANGEMENT that is now, parts a SET");
        is("house", house("sbc"), 1);
        aim("012");
        stays("THE AIM", -5, x::queue);
        aim("022");
        is("neither", x.queue(), 1);
        rowIs(1);
        x.carry(2, 2);
        stays("now", -5, x::queue);
        aim("012");
        stays("both, as it is", -5, x::queue);
        says("42: (NOTES: -5 ahead of -2; else THE AIM that parts a SET would always be -2)");
        aim("210");
        stays("some THING does not get there, too", -5, x::queue);
        says("42: -4: no AIM");
        aim("");
        stays("no AIM", -4, x::queue);
    }

    // ---- promises 43 and 44

    /** a and b fill their ROOMS; from 0 to 1 there is a DOOR, 2 is behind 1, 3 is beside both. */
    private static void freshSwap(int a, int b) {
        fresh("r5;r5;r5;r5;d0-1=9;d1-2=9;d0-3=9;d1-3=9", "5,1,1@0;5,1,1@1");
        x.sheet(2, 2, a, b - a);
        aim("10");
    }

    private static void evenings() {
        says("43: The fewest evenings to THE AIM, STRENGTH at most carried ahead of each: how many; the ROW: the least, the ARRANGEMENT");
        freshSwap(1, 2);
        is("changing places by day", x.evenings(), 1);
        rowIs(3, 1, 0);
        x.strength(3);
        is("just so much", x.evenings(), 1);
        rowIs(3, 1, 0);
        x.strength(2);
        is("less", x.evenings(), 3);
        rowIs(4, 3, 1);
        x.strength(1);
        stays("b can't", -2, x::evenings);
        says("43: (0, ahead of -2 and -3: it is as it is, LAWFUL or not); (none for 0)");
        aim("01");
        is("it is", x.evenings(), 0);
        rowIs(0);
        x.strength(999);
        x.carry(1, 0);
        aim("00");
        is("not LAWFUL", x.evenings(), 0);
        rowIs(0);
        says("43: (from an ARRANGEMENT that is not LAWFUL)");
        aim("01");
        is("one", x.evenings(), 1);
        rowIs(2, 0, 1);
        says("43: STRENGTH at most carried ahead of each (the first, too)");
        x.strength(1);
        stays("b can't", -2, x::evenings);
        aim("10");
        is("a can", x.evenings(), 1);
        rowIs(1, 1, 0);
        says("43: (nothing is done)");
        is("where", thing(0, 3) + thing(1, 3), 0);
        is("days, carried, strength", x.count(4) * 10000 + x.count(5) * 1000 + x.count(11), 2001);
    }

    private static void eveningsLeast() {
        says("43: of all rows of ARRANGEMENTS with so few evenings and so little carried the least");
        freshSwap(1, 1);
        x.strength(1);
        is("three", x.evenings(), 3);
        rowIs(3, 0, 3);
        freshSwap(2, 1);
        x.strength(2);
        is("less carried is ahead of a lesser row", x.evenings(), 3);
        rowIs(4, 0, 3);
        freshSwap(1, 2);
        x.strength(2);
        is("less carried is ahead of a lesser row", x.evenings(), 3);
        rowIs(4, 3, 1);
        fresh("r9;r9;r9;r9;d0-1=9;d0-2=9;d1-3=9;d2-3=9", "5,1,5@0");
        aim("3");
        x.strength(9);
        is("two ways", x.evenings(), 2);
        rowIs(10, 1);
        x.strength(10);
        is("at once", x.evenings(), 1);
        rowIs(10, 3);
        fresh("r9;r9;r9;r9;d0-1=9;d1-2=9;d2-3=9", "5,1,5@0");
        aim("3");
        x.strength(10);
        is("one STEP first, then two", x.evenings(), 2);
        rowIs(15, 1);
        x.strength(5);
        is("one by one", x.evenings(), 3);
        rowIs(15, 1);
        says("44: The least STRENGTH: how many evenings it takes then");
        is("weakest", x.weakest(), 5);
        rowIs(3);
    }

    private static void eveningsOfClumps() {
        says("43: STRENGTH at most carried ahead of each (all THINGS of a CLUMP)");
        fresh("r9;r9;r9;d0-1=9;d1-2=9", "2,1,1@0;2,1,2@0;2,1,4@0;sabc");
        aim("222");
        x.strength(13);
        is("two", x.evenings(), 2);
        rowIs(14, 1, 1, 1);
        x.strength(7);
        is("two", x.evenings(), 2);
        rowIs(14, 1, 1, 1);
        x.strength(6);
        stays("never", -2, x::evenings);
        is("weakest", x.weakest(), 7);
        rowIs(2);
        x.strength(14);
        is("one", x.evenings(), 1);
        rowIs(14, 2, 2, 2);
        says("43: (a CLUMP that is parted now comes together)");
        x.strength(999);
        x.carry(2, 2);
        x.strength(6);
        is("a and b come", x.evenings(), 1);
        rowIs(6, 2, 2, 2);
        aim("000");
        is("c comes half the way, a and b meet it", x.evenings(), -2);
        x.strength(7);
        is("they meet", x.evenings(), 2);
        rowIs(3 + 4 + 7, 1, 1, 1);
        x.strength(8);
        is("c comes", x.evenings(), 1);
        rowIs(8, 0, 0, 0);
        is("weakest", x.weakest(), 7);
        rowIs(2);
        says("43: (asked again, another house)");
        for (int n = 0; n < 120; n++) {
            is("weakest", x.weakest(), 7);
        }
        is("breaks", x.breaks(0), 2);
        aim("002");
        is("parted, as it is", x.evenings(), 0);
        x.strength(2);
        x.breaks(1);
        aim("102");
        is("a alone", x.evenings(), 1);
        rowIs(1, 1, 0, 2);
    }

    private static void eveningsAskedAgain() {
        says("43: (asked again, when CLUMPS are others)");
        fresh("r9;r9;d0-1=9", "2,1,1@0;2,1,2@0;sab");
        aim("11");
        is("both", x.evenings(), 1);
        rowIs(3, 1, 1);
        x.breaks(0);
        aim("01");
        is("b alone", x.evenings(), 1);
        rowIs(2, 0, 1);
        is("weakest", x.weakest(), 2);
        rowIs(1);
        is("one more", house("1,1,1@1;sac"), 2);
        aim("110");
        stays("parted", -2, x::evenings);
        aim("010");
        is("b and c", x.evenings(), 1);
        rowIs(3, 0, 1, 0);
    }

    private static void eveningsUnanswered() {
        says("43: -2: it can't be (also if it is not LAWFUL)");
        fresh("r5;r9;r5;d0-1=5", "5,1,1@0;5,6,1@1");
        x.clumps();
        aim("00");
        stays("b is too wide, too full", -2, x::evenings);
        stays("weakest", -2, x::weakest);
        x.widen(0, 1, 9);
        stays("too full", -2, x::evenings);
        stays("weakest", -2, x::weakest);
        aim("20");
        stays("no DOOR", -2, x::evenings);
        stays("weakest", -2, x::weakest);
        is("house", house("sab"), 1);
        aim("10");
        stays("parts a SET", -2, x::evenings);
        stays("weakest", -2, x::weakest);
        aim("11");
        stays("none is LAWFUL", -2, x::evenings);
        stays("weakest", -2, x::weakest);
        says("43: -3: as there (ROOMS to the power of CLUMPS above 20000)");
        fresh("r1;r1;r1;r1;r1;r1;d0-1=1", "1,1,1@0;1,1,1@1;1,1,1@2;1,1,1@3;1,1,1@4;1,1,1@5");
        x.clumps();
        aim("102345");
        stays("evenings", -3, x::evenings);
        stays("weakest", -3, x::weakest);
        says("43: (NOTES: -3 ahead of -2)");
        aim("000000");
        stays("not LAWFUL", -3, x::evenings);
        stays("not LAWFUL", -3, x::weakest);
        says("43: (0, ahead of -2 and -3: it is as it is, LAWFUL or not)");
        aim("012345");
        is("it is as it is", x.evenings(), 0);
        rowIs(0);
        x.clumps();
        is("it is as it is", x.weakest(), 0);
        rowIs(0);
        says("43: -4: no AIM");
        aim("");
        x.clumps();
        stays("evenings", -4, x::evenings);
        stays("weakest", -4, x::weakest);
    }

    private static void threeHundred() {
        says("43: -3: more than 300 LAWFUL ones");
        fresh("r6;r6;r6;r6;r1;d0-1=1", "3,1,1@0;2,1,1@2;2,1,1@2;1,1,1@1");
        is("300", x.fits(), 300);
        aim("0220");
        is("evenings", x.evenings(), 1);
        rowIs(1, 0, 2, 2, 0);
        is("weakest", x.weakest(), 1);
        rowIs(1);
        fresh("r7;r1;r6;r7;r8;d0-2=1", "2,1,1@4;1,1,1@4;3,1,1@4;3,1,1@2");
        is("301", x.fits(), 301);
        aim("4440");
        stays("evenings", -3, x::evenings);
        stays("weakest", -3, x::weakest);
        aim("4442");
        is("it is as it is", x.evenings(), 0);
        is("it is as it is", x.weakest(), 0);
    }

    private static void weakest() {
        says("44: The least STRENGTH with which THE AIM can be come to at all so: it; the ROW: how many evenings it takes then");
        freshSwap(1, 2);
        x.strength(1);
        is("2, whatever STRENGTH is", x.weakest(), 2);
        rowIs(3);
        is("STRENGTH stays", x.count(11), 1);
        freshSwap(9, 9);
        is("9", x.weakest(), 9);
        rowIs(3);
        says("44: (changing places at once)");
        fresh("r5;r5;d0-1=9", "5,1,8@0;5,1,9@1");
        aim("10");
        is("17", x.weakest(), 17);
        rowIs(1);
        fresh("r9;r9;d0-1=9", "4,1,8@0;5,1,9@1");
        aim("10");
        is("one by one", x.weakest(), 9);
        rowIs(2);
        says("44: -2: with none (up to 999)");
        x.widen(0, 1, 0);
        stays("none", -2, x::weakest);
        says("44: 0, ahead of -2 and -3: it is as it is (the ROW: 0)");
        aim("01");
        is("0", x.weakest(), 0);
        rowIs(0);
        says("44: (the most there is)");
        fresh("r10;r1;r1;r1;r1;r10;d0-1=9;d1-2=9;d2-3=9;d3-4=9;d4-5=9", "1,1,9@0;".repeat(7) + "1,1,9@0", "1,1,9@0;1,1,9@0");
        is("house", house("sabcdefghij"), 1);
        aim("5555555555");
        is("450", x.weakest(), 450);
        rowIs(1);
        x.strength(450);
        is("450", x.evenings(), 1);
        x.strength(449);
        is("449", x.evenings(), -2);
    }

    // ---- promises 45 and 46

    private static void refusedKept(String call, boolean got, String before) {
        is(call, got, false);
        is(call + " changes nothing", before.equals(state()), true);
    }

    private static void keeping() {
        fresh("r9;r9;d0-1=9", "5,1,2@0;4,1,3@1");
        x.evening();
        x.carry(0, 1);
        says("46: Refused: nothing kept");
        refusedKept("again 0", x.again(0), state());
        refusedKept("again 1", x.again(1), state());
        says("45: Where THINGS are, DAYS, CARRIED are kept under a number 0 .. 1: true");
        is("keep 0", x.keep(0), true);
        String kept = state();
        refusedKept("again 1", x.again(1), kept);
        x.carry(1, 0);
        x.evening();
        x.evening();
        x.carry(1, 1);
        is("keep 1", x.keep(1), true);
        x.carry(0, 0);
        x.evening();
        says("46: They are as they were kept under a number");
        is("again 0", x.again(0), true);
        is("where", thing(0, 3) * 10 + thing(1, 3), 11);
        is("days, carried, to undo", x.count(4) * 100 + x.count(5) * 10 + x.count(8), 120);
        is("again 1", x.again(1), true);
        is("where", thing(0, 3) * 10 + thing(1, 3), 11);
        is("days, carried, to undo", x.count(4) * 100 + x.count(5) * 10 + x.count(8), 330);
        is("again 0", x.again(0), true);
        is("days", x.count(4), 1);
        says("45: (kept anew)");
        x.carry(0, 0);
        is("keep 0", x.keep(0), true);
        x.carry(0, 1);
        is("again 0", x.again(0), true);
        is("where", thing(0, 3) * 10 + thing(1, 3), 1);
        is("carried", x.count(5), 4);
        says("45: Refused: others; 46: nothing kept");
        for (int i : new int[] {-1, 2, 3, MAX, MIN}) {
            String before = state();
            refusedKept("keep " + i, x.keep(i), before);
            refusedKept("again " + i, x.again(i), before);
        }
    }

    private static void keptAfterChanges() {
        says("46: They are as they were kept (Where THINGS are, DAYS, CARRIED; nothing else)");
        fresh("r9;r9;d0-1=9", "5,1,2@0;4,1,3@1;sab");
        x.keep(0);
        x.carry(0, 1);
        x.widen(0, 1, 3);
        x.strength(77);
        x.sheet(2, 2, 7, 0);
        x.breaks(0);
        rule("9");
        x.clumps();
        is("again", x.again(0), true);
        is("where", thing(0, 3), 0);
        is("the DOOR", x.door(0, 1), 3);
        is("STRENGTH", x.count(11), 77);
        is("WEIGHT", thing(0, 2), 7);
        is("the SET", x.set(0), 2);
        is("WORTH", x.worth(), 18);
        rowIs(1, 2);
        says("46: Refused: ROOMS or THINGS came since");
        is("SETS and DOORS may", house("sa;d0-1=2"), 2);
        is("again", x.again(0), true);
        is("a ROOM", house("r1"), 1);
        x.carry(0, 1);
        String before = state();
        refusedKept("again", x.again(0), before);
        is("keep", x.keep(1), true);
        is("a THING", house("1,1,1@2"), 1);
        x.carry(0, 0);
        before = state();
        refusedKept("again", x.again(0), before);
        refusedKept("again", x.again(1), before);
        is("keep", x.keep(1), true);
        is("again", x.again(1), true);
        says("46: (a house that does not come)");
        is("a fault", house("r1;x"), -4);
        is("again", x.again(1), true);
    }

    // ---- promises 47 and 48

    private static void counts() {
        fresh("r9;r5;r1;r4;d0-1=9;d1-2=1", "5,1,2@0;4,1,3@1;9,1,1@1;sab;sbc;sac");
        x.evening();
        x.strength(50);
        x.carry(0, 0);
        x.carry(1, 0);
        x.carry(2, 2);
        x.breaks(2);
        x.clumps();
        x.sign(0);
        x.end(3);
        says("47: What 0: ROOMS, 1: THINGS, 2: SETS, 3: DOORS, 4: DAYS, 5: CARRIED, 6, 7 (bits), 8, 9, 10, 11");
        int[] want = {4, 3, 3, 2, 0, 4, 0, 4, 3, 2, 3, 50};
        for (int what = 0; what < want.length; what++) {
            is("count " + what, x.count(what), want[what]);
        }
        x.carry(1, 1);
        is("parted", x.count(6), 1);
        is("too full", x.count(7), 4);
        x.undo();
        x.widen(0, 1, 0);
        is("doors", x.count(3), 1);
        says("47: NONE for another what");
        refusedAll("count", x::count, -1, 12, 13, MAX, MIN);
    }

    private static void rows() {
        says("48: Number i of the ROW");
        fresh("r9;r5", "5,1,2@0;4,1,3@1;9,1,1@1");
        is("clumps", x.clumps(), 3);
        is("numbers", row(0) * 100 + row(1) * 10 + row(2), 124);
        says("48: NoSuchElementException: none such");
        String before = state();
        for (int i : new int[] {-1, 3, 4, 11, 12, MAX, MIN}) {
            is("row " + i, row(i), THROWN);
        }
        is("changes nothing", before.equals(state()), true);
        says("2: ROW: numbers told last by a call that says so");
        is("another", x.heaviest(), 2);
        rowIs(9, 1);
        is("none lawful", x.fits(), 0);
        rowIs();
        is("row 0", row(0), THROWN);
        x.clumps();
        for (int call = 0; call < 3; call++) {
            x.worth();
            x.ties();
            x.stuck();
            x.could(1, 0);
            x.widest(0, 1);
            x.undo();
            x.keep(0);
            x.again(0);
            x.sheet(2, 3, 1, 1);
            x.strength(998);
            x.carry(0, 0);
            x.breaks(0);
        }
        rowIs(1, 2, 4);
        says("Terms: a number of the ROW for each of ten THINGS, and one more");
        fresh("r99;r99", "1,1,1@0;".repeat(8) + "1,1,1@0", "1,1,1@0;sabcdefghi");
        rule("9");
        is("best", x.best(), 1);
        rowIs(90, 0, 0, 0, 0, 0, 0, 0, 0, 0, 0);
        x.widen(0, 1, 1);
        aim("1111111110");
        is("evenings", x.evenings(), 1);
        rowIs(9, 1, 1, 1, 1, 1, 1, 1, 1, 1, 0);
        is("row 11", row(11), THROWN);
        is("row 10", row(10), 0);
    }
}
