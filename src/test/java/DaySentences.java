/** Promises 13 to 17, sentence by sentence: each that names an edge, or what is refused. */
public final class DaySentences extends Asking {
    private static final int MIN = Integer.MIN_VALUE;
    private static final int MAX = Integer.MAX_VALUE;

    public static void main(String[] args) {
        carrying();
        carryingUpToStrength();
        carryingNoneFirst();
        lawfulEvenings();
        unlawfulEvenings();
        daysThatEnd();
        daysThatStop();
        dayTexts();
        dayOver40();
        undoing();
        undoingTwenty();
        undoForgotten();
        undoKept();
        judging();
        judgingCodes();
        judgingEdges();
        finish();
    }

    /** d is alone in a ROOM without DOORS; b is too wide for the way to ROOM 2. */
    private static void freshHouse() {
        fresh("r9;r12;r9;r9;d0-1=5;d1-2=3", "5,1,2@0;5,4,3@0;1,3,9@1;1,1,1@3");
    }

    // ---- promise 13

    private static void carrying() {
        freshHouse();
        says("13: A THING is carried to a ROOM: STEPS times WEIGHT");
        is("one step", x.carry(0, 1), 2);
        is("there", thing(0, 3), 1);
        is("two steps", x.carry(2, 2) + x.carry(2, 0), 9 + 18);
        is("carried", x.count(5), 2 + 9 + 18);
        says("Terms: STEPS (0: the same)");
        is("where it is", x.carry(2, 0), 0);
        is("carried", x.count(5), 2 + 9 + 18);
        is("without DOORS too", x.carry(3, 3), 0);
        says("Terms: the fewest DOORS of its WIDTH or more");
        x.widen(0, 2, 3);
        is("so wide", x.carry(2, 2), 9);
        x.widen(0, 2, 2);
        is("round", x.carry(2, 0), 18);
        says("13: -2: it does not get there");
        stays("too wide", -2, () -> x.carry(1, 2));
        stays("no DOOR", -2, () -> x.carry(1, 3));
        stays("no DOOR out", -2, () -> x.carry(3, 0));
        x.widen(1, 2, 4);
        is("wide enough", x.carry(1, 2), 6);
        says("none of a set may be in another room than the rest overnight (by day it may; a ROOM may be too full, too)");
        freshHouse();
        is("too full", x.carry(0, 1) + x.carry(1, 1) + x.carry(2, 1), 5);
        is("bulk", room(1, 2), 1);
        x.carry(0, 2);
        is("parts a SET", house("sabc") + x.carry(1, 0), 4);
    }

    private static void carryingUpToStrength() {
        freshHouse();
        says("13: -3: CARRIED would be more than STRENGTH");
        x.strength(7);
        is("2", x.carry(0, 1), 2);
        is("5", x.carry(1, 1), 3);
        is("7", x.carry(0, 0), 2);
        is("carried", x.count(5), 7);
        stays("8", -3, () -> x.carry(0, 1));
        is("0 more is not more", x.carry(0, 0), 0);
        x.strength(8);
        stays("9", -3, () -> x.carry(0, 1));
        x.strength(9);
        is("9", x.carry(0, 1), 2);
        x.strength(1);
        stays("a great one", -3, () -> x.carry(2, 0));
        stays("where it is", -3, () -> x.carry(2, 1));
        stays("no way, ahead of it", -2, () -> x.carry(1, 2));
    }

    private static void carryingNoneFirst() {
        freshHouse();
        says("13: NONE: none such");
        refusedAll("thing", t -> x.carry(t, 0), -1, 4, 9, 10, MAX, MIN);
        refusedAll("room", r -> x.carry(0, r), -1, 4, 5, 6, MAX, MIN);
        refused("neither", () -> x.carry(4, 4));
        says("2: NONE is asked ahead of other answers below 0");
        x.strength(1);
        refused("room, too much", () -> x.carry(2, 4));
        refused("thing, no way", () -> x.carry(4, 3));
    }

    // ---- promise 14

    private static void lawfulEvenings() {
        fresh("r9;r5;d0-1=9", "5,1,1@0;4,1,1@1;1,1,1@1;sbc;sa");
        says("14: It is evening: 1: the ARRANGEMENT is LAWFUL, DAYS is one more, CARRIED 0");
        is("just full", room(1, 2), 0);
        is("evening", x.evening(), 1);
        rowIs(0, 0);
        is("days", x.count(4), 1);
        x.carry(0, 0);
        x.carry(1, 0);
        x.carry(2, 0);
        is("too full", x.evening(), 0);
        x.carry(0, 1);
        is("carried", x.count(5), 3);
        is("evening", x.evening(), 1);
        rowIs(0, 0);
        is("days", x.count(4), 2);
        is("carried", x.count(5), 0);
        says("14: an emptied SET, a SET of one THING is not parted");
        x.breaks(1);
        x.breaks(2);
        x.carry(1, 1);
        is("too full alone", x.evening(), 0);
        rowIs(0, 2);
        x.carry(0, 0);
        is("evening", x.evening(), 1);
    }

    private static void unlawfulEvenings() {
        fresh("r5;r4;r3;d0-1=9", "3,1,1@0;3,1,1@0;3,1,1@1;2,1,1@1;1,1,1@2;sab;sac;sbd;sde;sc");
        says("14: 0: it is not (nothing changes); the ROW, both times: SETS that are parted, ROOMS that are too full (bits)");
        is("two ROOMS, three SETS", x.evening(), 0);
        rowIs(2 | 4 | 8, 1 | 2);
        is("count 6", x.count(6), 14);
        is("count 7", x.count(7), 3);
        x.carry(0, 1);
        is("evening", x.evening(), 0);
        rowIs(1 | 4 | 8, 2);
        is("days", x.count(4), 0);
        is("carried", x.count(5), 1);
        is("can be undone", x.count(8), 1);
        is("there", thing(0, 3), 1);
        stays("once more", 0, x::evening);
        says("14: a SET parted, no ROOM too full");
        fresh("r9;r9", "3,1,1@0;3,1,1@1;sab");
        is("evening", x.evening(), 0);
        rowIs(1, 0);
        says("14: no SET parted, a ROOM too full by one");
        fresh("r9;r5", "9,1,1@0;6,1,1@1;sb");
        is("evening", x.evening(), 0);
        rowIs(0, 2);
    }

    // ---- promise 15

    /** LAWFUL is a with c, b in the other ROOM; b can't go. */
    private static void freshDay() {
        fresh("r9;r12;d0-1=5", "5,1,2@0;5,6,3@0;1,1,1@1;sac");
    }

    private static void daysThatEnd() {
        freshDay();
        says("15: if all were, it is evening: how many were done; the ROW: 1 if it was evening and LAWFUL; what was carried");
        is("day", day("a>1"), 1);
        rowIs(1, 2);
        is("days", x.count(4), 1);
        is("carried", x.count(5), 0);
        is("nothing to undo", x.count(8), 0);
        is("emptied", x.count(10), 0);
        says("15: 0 if not LAWFUL");
        is("day", day("c>0;c>1;a>0"), 3);
        rowIs(0, 4);
        is("days", x.count(4), 1);
        is("carried", x.count(5), 4);
        is("to undo", x.count(8), 3);
        is("emptied", x.count(10), 0);
        says("15: (an empty one: nothing is carried)");
        is("day", day(""), 0);
        rowIs(0, 0);
        is("days", x.count(4), 1);
        is("to undo", x.count(8), 3);
        x.carry(0, 1);
        is("day", day(""), 0);
        rowIs(1, 0);
        is("days", x.count(4), 2);
        is("carried", x.count(5), 0);
        is("nothing to undo", x.count(8), 0);
        says("15: one to where it is can be done");
        is("day", day("a>1;b>0"), 2);
        rowIs(1, 0);
        says("15: done one by one");
        is("there and back", day("a>0;c>0;a>1;c>1;a>1"), 5);
        rowIs(1, 6);
        is("days", x.count(4), 4);
    }

    private static void daysThatStop() {
        freshDay();
        says("15: they are done one by one, till one can't be; NONE if it did not come to that; what was carried");
        is("too wide", day("a>1;b>1;c>0"), 1);
        rowIs(NONE, 2);
        is("done", thing(0, 3), 1);
        is("not done", thing(2, 3), 1);
        is("no evening", x.count(4), 0);
        is("carried", x.count(5), 2);
        is("to undo", x.count(8), 1);
        is("emptied", x.count(10), 0);
        is("the first", day("b>1;a>0"), 0);
        rowIs(NONE, 0);
        is("carried", x.count(5), 2);
        says("15: a digit (a ROOM; whether there or not)");
        is("room 2", day("c>2"), 0);
        rowIs(NONE, 0);
        is("room 9", day("c>0;c>1;c>9;c>0"), 2);
        rowIs(NONE, 2);
        is("carried", x.count(5), 4);
        says("15: a letter (a THING) a .. j");
        is("d", day("c>0;d>0"), 1);
        rowIs(NONE, 1);
        is("j", day("j>0;c>1"), 0);
        rowIs(NONE, 0);
        is("carried", x.count(5), 5);
        says("15: till one can't be: CARRIED would be more than STRENGTH");
        x.strength(6);
        is("6", day("c>1;c>0;a>0"), 1);
        rowIs(NONE, 1);
        is("carried", x.count(5), 6);
        x.strength(7);
        is("7, the last one", day("c>0"), 1);
        rowIs(0, 1);
        is("8", day("c>1"), 0);
        rowIs(NONE, 0);
        is("days", x.count(4), 0);
        is("to undo", x.count(8), 6);
    }

    private static void dayTexts() {
        says("15: -1 - p: the sign at p can't stand there; nothing is done then");
        String[] faults = {
            "x 0", "k>1 0", "A>1 0", "`>1 0", "0>1 0", ">1 0", ";a>1 0", "a1 1", "a=1 1", "a>a 2", "a>: 2", "a>/ 2", "a>-1 2", "a>12 3",
            "a>1a>0 3", "a>1,a>0 3", "a>1;;a>0 4", "a>1;k>0 4", "a>1;a1 5", "a>1;a>x 6", "a>1 ;a>0 3",
        };
        for (String told : faults) {
            int cut = told.lastIndexOf(' ');
            freshDay();
            x.carry(2, 0);
            x.clumps();
            fault(told.substring(0, cut), Integer.parseInt(told.substring(cut + 1)), x::day);
        }
        says("15: (its end, if it ends too early)");
        for (String text : new String[] {"a", "a>", "a>1;", "a>1;c", "a>1;c>", "j", "j>"}) {
            freshDay();
            fault(text, text.length(), x::day);
        }
    }

    private static void dayOver40() {
        says("15: 40, if it has more and the first 40 could go on or end");
        String nine = "a>1;".repeat(9);
        freshDay();
        is("39", day(nine + "a>0"), 10);
        rowIs(0, 4);
        x.clumps();
        fault(nine + "a>0;", 40, x::day);
        fault(nine + "a>0;a", 40, x::day);
        fault(nine + "a>0;a>1", 40, x::day);
        fault(nine + "a>0;x", 40, x::day);
        fault("a>1;".repeat(20), 40, x::day);
        says("15: the sign at p can't stand there");
        fault(nine + "a>0x", 39, x::day);
        fault(nine + "a>0,a>1", 39, x::day);
        fault(nine + "a>x;a>1", 38, x::day);
        fault(nine + "a", 37, x::day);
    }

    // ---- promise 16

    private static void undoing() {
        fresh("r9;r9;d0-1=5", "5,1,2@0;5,1,3@1");
        says("16: Refused: none");
        refused("undo", x::undo);
        says("16: The latest carrying is undone (where the THING is, CARRIED are as ahead of it): how many are left that can be");
        x.carry(0, 1);
        x.carry(1, 0);
        is("undo", x.undo(), 1);
        is("back", thing(1, 3) * 10 + thing(0, 3), 11);
        is("carried", x.count(5), 2);
        is("undo", x.undo(), 0);
        is("back", thing(0, 3), 0);
        is("carried", x.count(5), 0);
        refused("undo", x::undo);
        says("16: one to where it is counts");
        x.carry(0, 1);
        x.carry(0, 1);
        is("two", x.count(8), 2);
        is("undo", x.undo(), 1);
        is("there", thing(0, 3), 1);
        is("carried", x.count(5), 2);
        says("16: what can't be carried does not count");
        x.strength(2);
        x.carry(0, 0);
        x.carry(0, 2);
        x.carry(2, 0);
        is("one", x.count(8), 1);
        says("16: those of day(), too");
        x.strength(999);
        is("day", day("a>0;b>0;a>1;a>7"), 3);
        is("four", x.count(8), 4);
        is("undo", x.undo(), 3);
        is("carried", x.count(5), 2 + 2 + 3);
        is("undo", x.undo() + x.undo() + x.undo(), 2 + 1 + 0);
        is("carried", x.count(5), 0);
        says("16: CARRIED are as ahead of it (whatever WEIGHTS and STRENGTH are now)");
        x.carry(0, 1);
        x.sheet(2, 2, 9, 0);
        x.widen(0, 1, 0);
        x.strength(1);
        is("undo", x.undo(), 0);
        is("back", thing(0, 3), 0);
        is("carried", x.count(5), 0);
    }

    private static void undoingTwenty() {
        says("16: of 20 that are kept, the latest ones");
        fresh("r9;r9;r9;d0-1=5;d1-2=5", "5,1,2@0;5,1,3@1;5,1,5@2");
        int[][] before = new int[33][];
        for (int i = 0; i < before.length; i++) {
            before[i] = new int[] {thing(0, 3), thing(1, 3), thing(2, 3), x.count(5)};
            x.carry((i / 2 + i / 7) % 3, (i * 2 + i / 5) % 3);
            is("kept", x.count(8), Math.min(20, i + 1));
        }
        for (int i = before.length - 1; i >= before.length - 20; i--) {
            is("undo", x.undo(), i - before.length + 20);
            for (int t = 0; t < 3; t++) {
                is("where it was ahead of " + i, thing(t, 3), before[i][t]);
            }
            is("carried ahead of " + i, x.count(5), before[i][3]);
        }
        refused("no more", x::undo);
        says("16: 20 of day(), too");
        fresh("r9;r1;d0-1=5", "5,1,1@0");
        is("ten", day("a>1;a>0;a>1;a>0;a>1;a>0;a>1;a>0;a>1;a>1"), 10);
        is("ten", day("a>0;a>1;a>0;a>1;a>0;a>1;a>0;a>1;a>0;a>1"), 10);
        is("twenty", x.count(8), 20);
        is("one", day("a>1"), 1);
        is("twenty", x.count(8), 20);
        for (int left = 19; left >= 0; left--) {
            is("undo", x.undo(), left);
        }
        is("all but the first", x.count(5), 1);
        is("all but the first", thing(0, 3), 1);
    }

    private static void undoForgotten() {
        says("16: A lawful evening forgets them");
        fresh("r9;r4;d0-1=5", "5,1,2@0;3,1,3@1");
        x.carry(1, 0);
        is("evening", x.evening(), 1);
        refused("undo", x::undo);
        x.carry(1, 1);
        is("a day with a lawful evening", day(""), 0);
        refused("undo", x::undo);
        is("a day with a lawful evening", day("b>0;b>1"), 2);
        refused("undo", x::undo);
        says("16: house() and again(), if they are not refused");
        x.keep(0);
        x.carry(1, 0);
        is("again", x.again(0), true);
        refused("undo", x::undo);
        x.carry(1, 0);
        is("house", house("d0-1=4"), 1);
        refused("undo", x::undo);
    }

    private static void undoKept() {
        fresh("r9;r4;d0-1=5", "5,1,2@0;3,1,3@1;sa");
        x.carry(0, 1);
        x.carry(0, 0);
        x.carry(0, 1);
        says("16: (a LAWFUL evening alone forgets them)");
        is("evening", x.evening(), 0);
        is("three", x.count(8), 3);
        is("day", day(""), 0);
        is("three", x.count(8), 3);
        says("16: an empty house() does not");
        is("house", house(""), 0);
        is("three", x.count(8), 3);
        says("16: house() and again(), if they are not refused");
        is("house", house("d0-1=4;x"), -8);
        is("three", x.count(8), 3);
        fault("x", 0, x::house);
        fault("d0-0=1", 3, x::house);
        is("three", x.count(8), 3);
        is("again", x.again(0) || x.again(2), false);
        is("three", x.count(8), 3);
        says("2: others change nothing of it");
        x.widen(0, 1, 9);
        x.strength(998);
        x.sheet(2, 2, 1, 1);
        x.breaks(0);
        x.keep(0);
        rule("1");
        aim("00");
        day("x");
        x.queue();
        x.evenings();
        x.best();
        x.judge(1, 0);
        x.hinge(0);
        is("three", x.count(8), 3);
        is("undo", x.undo(), 2);
    }

    // ---- promise 17

    /** LAWFUL: a and b in ROOM 1. */
    private static void freshJudge() {
        fresh("r9;r12;r1;d0-1=5", "5,1,2@0;5,1,3@0;1,6,1@1;sab");
    }

    private static int told(int... carryings) {
        int bits = 0;
        for (int i = 0; i < carryings.length; i++) {
            bits |= carryings[i] << (7 * i);
        }
        return bits;
    }

    private static void judging() {
        freshJudge();
        says("17: -2: all can be done, one behind the other; the ROW: what is carried till then, 1 if it is LAWFUL then, else 0");
        is("none", x.judge(0, -1), -2);
        rowIs(0, 0);
        is("one", x.judge(1, told(1, 11)), -2);
        rowIs(2, 0);
        is("two", x.judge(2, told(1, 11)), -2);
        rowIs(5, 1);
        is("there and back", x.judge(4, told(1, 0, 11, 1)), -2);
        rowIs(9, 1);
        is("where it is", x.judge(2, told(0, 21)), -2);
        rowIs(0, 0);
        says("17: else the number of the first that can't (0 ..)");
        is("0", x.judge(4, told(20, 1, 11, 0)), 0);
        rowIs(0, 0);
        is("1", x.judge(4, told(1, 20, 11, 0)), 1);
        rowIs(2, 0);
        is("2", x.judge(4, told(1, 11, 20, 0)), 2);
        rowIs(5, 1);
        is("3", x.judge(4, told(1, 11, 1, 20)), 3);
        rowIs(5, 1);
        is("3, not asked", x.judge(3, told(1, 11, 1, 20)), -2);
        rowIs(5, 1);
        says("17: Nothing changes");
        is("where", thing(0, 3) + thing(1, 3), 0);
        is("carried, to undo", x.count(5) + x.count(8), 0);
        x.carry(0, 1);
        is("from now", x.judge(1, told(11)), -2);
        rowIs(3, 1);
        is("where", thing(0, 3) * 10 + thing(1, 3), 10);
        is("carried, to undo", x.count(5) * 10 + x.count(8), 21);
    }

    private static void judgingCodes() {
        says("17: 7 bits each (10 times the THING, and the ROOM), from the lowest on");
        freshJudge();
        for (int code : new int[] {2, 3, 5, 9, 12, 19, 22, 29, 30, 31, 39, 90, 91, 99, 100, 101, 110, 119, 120, 127}) {
            is("code " + code, x.judge(1, code), 0);
            is("code " + code + ", the second", x.judge(2, told(1, code)), 1);
            rowIs(2, 0);
        }
        is("the highest bits aside", x.judge(4, told(1, 11, 1, 11) | 15 << 28), -2);
        rowIs(5, 1);
        is("the highest bits aside", x.judge(1, told(1) | 1 << 31), -2);
        is("all bits", x.judge(4, -1), 0);
        is("the least", x.judge(4, MIN), -2);
        rowIs(0, 0);
        fresh("r9;r9;r9;r9;r9;r9;d0-5=1", "1,1,1@0;".repeat(8) + "1,1,1@0", "1,1,7@0");
        is("j to 5", x.judge(1, 95), -2);
        rowIs(7, 1);
        is("j to 5, back, i", x.judge(4, told(95, 90, 85, 94)), 3);
        rowIs(15, 1);
    }

    private static void judgingEdges() {
        freshJudge();
        says("17: can be done: CARRIED not more than STRENGTH");
        x.strength(5);
        is("5", x.judge(2, told(1, 11)), -2);
        rowIs(5, 1);
        x.strength(4);
        is("5 of 4", x.judge(2, told(1, 11)), 1);
        rowIs(2, 0);
        x.carry(0, 1);
        is("what was carried counts", x.judge(1, told(11)), 0);
        says("17: NONE: another n");
        refusedAll("n", n -> x.judge(n, 0), -1, 5, 6, MAX, MIN);
    }
}
