/** The edges in 'Terms', the lanes and the lines: the least and greatest numbers, none, all, and sums that wrap. */
public final class EdgeLinesTest {
    private static final int LEAST = Integer.MIN_VALUE, MOST = Integer.MAX_VALUE;
    private static final String NONE = "0 0 0 0";

    public static void main(String[] args) {
        fiveHundredAndTwelveCalls();
        square();
        fortyEightLines();
        lastLineOfAll();
        sumsWrap();
        madeSumsWrap();
        differencesWrap();
        differencesOfTheDropped();
        fourOfEach();
        constants();
        inputNumbers();
        comparisons();
        bothAndNot();
        picks();
        variablesOfNoPut();
        any();
        first();
        take();
        takeOfEachCell();
        takeByTheDropped();
        out();
        drop();
        Bench.end();
    }

    private static void fiveHundredAndTwelveCalls() {
        Bench.sentence("An object is used for at most 512 calls after it has been made; what later calls answer is free.");
        LaneDesk desk = new LaneDesk();
        int calls = 0;
        for (int round = 0; round < 50; round++) {
            Bench.due("wipe in round " + round, desk.wipe(), round == 0 ? 0 : 4);
            Bench.due("line 0 in round " + round, desk.add(1, 2, 0, 0), 0);
            Bench.due("line 1 in round " + round, desk.add(0, round + 1, 0, 0), 1);
            Bench.due("line 2 in round " + round, desk.add(3, 0, 1, 0), 2);
            Bench.due("line 3 in round " + round, desk.add(18, 1, 2, 0), 3);
            Bench.due("input in round " + round, desk.input(3, 2, 7 * round), true);
            Bench.due("check in round " + round, desk.check(), 0);
            Bench.due("run in round " + round, desk.run(round % 2 == 0), LaneDesk.DONE);
            Bench.due("out in round " + round, desk.out(3, 1), 8 * round + 1);
            Bench.due("steps in round " + round, desk.state(0), round % 2 == 0 ? 3 : 4);
            calls += 10;
        }
        while (calls < 511) {
            Bench.due("shorter after " + calls + " calls", desk.shorter(1, 2), 50);
            calls++;
        }
        Bench.due("the call numbered 512", desk.out(2, 1), 50);
    }

    private static void square() {
        Bench.sentence("LANES 0..3 lie in a square: 0 and 1 above, 2 and 3 below (0 over 2).");
        Bench.dueBothWays("INPUT 2; ACROSS 0; OUT 0 1", "1 10 100 1000", NONE, "9 9 900 900");
        Bench.dueBothWays("INPUT 2; DOWN 0; OUT 0 1", "1 10 100 1000", NONE, "99 990 99 990");
        Bench.dueBothWays("LANE; OUT 0 0", NONE, NONE, "0 1 2 3");
    }

    private static void fortyEightLines() {
        Bench.sentence("A PROGRAM is a row of at most 48 LINES (op, a, b, c), numbered from 0.");
        LaneDesk desk = Bench.desk("LANE");
        for (int i = 1; i < 47; i++) {
            Bench.due("line " + i, desk.add(3, i - 1, 0, 0), i);
        }
        Bench.due("the last line", desk.add(18, 0, 46, 0), 47);
        Bench.due("one too many", desk.add(18, 1, 46, 0), LaneDesk.FULL);
        Bench.due("check of 48 lines", desk.check(), 0);
        Bench.due("line 46 is varied", desk.lanes(46, 0), 1);
        Bench.due("line 47 is together", desk.lanes(47, 1), 0);
        Bench.due("there is no line 48", desk.lanes(48, 1), LaneDesk.BAD);
        Bench.due("line 47 is needed", desk.shorter(47, 0), 1);
        Bench.due("there is no line 48 to shorten", desk.shorter(48, 0), LaneDesk.BAD);
        Bench.due("run of 48 lines", desk.run(false), LaneDesk.DONE);
        Bench.dueRow("outputs of 48 lines", Bench.outs(desk, 0), "0 47 94 141");
        Bench.dueRow("state behind 48 lines", Bench.states(desk), "48 0 15 48 0");
        Bench.due("short run of 48 lines", desk.run(true), LaneDesk.DONE);
        Bench.dueRow("outputs of 48 lines, short", Bench.outs(desk, 0), "0 47 94 141");
        Bench.dueRow("state behind 48 lines, short", Bench.states(desk), "48 0 15 48 0");
        desk = new LaneDesk();
        Bench.due("the only line is line 0", desk.add(2, 0, 0, 0), 0);
        Bench.due("line 0 is there", desk.lanes(0, 0), 1);
        Bench.due("line 1 is not", desk.lanes(1, 0), LaneDesk.BAD);
    }

    /** Line 47 as what closes a block, gives a value, or is wrong. */
    private static void lastLineOfAll() {
        Bench.sentence("A PROGRAM is a row of at most 48 LINES (op, a, b, c), numbered from 0.");
        String full = "LANE" + Bench.times(44, "OUT 1 0");
        Bench.dueStates(full + "; IF 0; DROP; END", false, LaneDesk.DONE, "48 14 15 48 0");
        Bench.dueStates(full + "; LOOP; BREAK; AGAIN", true, LaneDesk.DONE, "48 0 15 48 0");
        Bench.dueStates(full + "; LANE; SUB 0 0; NOT 46", false, LaneDesk.DONE, "48 0 15 48 0");
        LaneDesk desk = Bench.desk(full + "; LANE; SUB 0 0; NOT 46");
        Bench.due("line 47 is a CONST", desk.shorter(47, 2), 1);
        Bench.dueCheck(full + "; LANE; LANE; NOT 46", 0, -1);
        Bench.dueCheck(full + "; LANE; LANE; NOT 47", 2, 47);
        Bench.dueCheck(full + "; LANE; LANE; NOT 48", 2, 47);
        Bench.dueCheck(full + "; LANE; LANE; END", 1, 47);
        Bench.dueCheck(full + "; LANE; LANE; LOOP", 1, 48);
        Bench.dueCheck(full + "; IF 0; ELSE; END", 0, -1);
    }

    private static void sum(String op, int x, int y, int want) {
        String twos = (x + " ").repeat(4);
        String threes = (y + " ").repeat(4);
        Bench.dueBothWays("INPUT 2; INPUT 3; " + op + " 0 1; OUT 0 2", twos, threes, (want + " ").repeat(4));
        // The long way does with CONSTS what the short one finds before.
        Bench.dueBothWays("CONST " + x + "; CONST " + y + "; " + op + " 0 1; OUT 0 2", NONE, NONE, (want + " ").repeat(4));
    }

    private static void sumsWrap() {
        Bench.sentence("all sums wrap.");
        sum("ADD", MOST, 1, LEAST);
        sum("ADD", LEAST, -1, MOST);
        sum("ADD", LEAST, LEAST, 0);
        sum("ADD", MOST, MOST, -2);
        sum("SUB", LEAST, 1, MOST);
        sum("SUB", MOST, -1, LEAST);
        sum("SUB", 0, LEAST, LEAST);
        sum("MUL", MOST, 2, -2);
        sum("MUL", LEAST, -1, LEAST);
        sum("MUL", 65536, 65536, 0);
        sum("MUL", MOST, MOST, 1);
    }

    private static void madeSumsWrap() {
        Bench.sentence("all sums wrap.");
        LaneDesk desk = Bench.desk("CONST 2147483647; CONST 1; ADD 0 1; SUB 2 1; MUL 0 0; CONST 65536; MUL 5 5");
        Bench.dueRow("kinds", Bench.shorter(desk, 7, 0), "3 3 3 3 3 3 3");
        Bench.dueRow("numbers", Bench.shorter(desk, 7, 2), "2147483647 1 -2147483648 2147483647 1 65536 0");
        Bench.dueRow("the SAME after a turn round", Bench.shorter(desk, 7, 1), "0 1 2 0 1 5 6");
    }

    private static void differencesWrap() {
        Bench.sentence("all sums wrap.");
        Bench.dueBothWays("INPUT 2; ACROSS 0; OUT 0 1", "1 -2147483648 -1 2147483647", NONE,
                "2147483647 2147483647 -2147483648 -2147483648");
        Bench.dueBothWays("INPUT 2; DOWN 0; OUT 0 1", "1 -1 -2147483648 2147483647", NONE,
                "2147483647 -2147483648 2147483647 -2147483648");
        LaneDesk desk = Bench.dueBothWays("INPUT 2; TAKE 3 0; OUT 0 1", "2147483647 1 -1 5", NONE,
                "0 2147483647 -2147483648 2147483647");
        Bench.due("the cell, past the greatest int once more", desk.kept(0, 7), LEAST + 4);
        desk = Bench.dueBothWays("INPUT 2; TAKE 3 0; OUT 0 1", "-2147483648 -1 0 0", NONE, "0 -2147483648 2147483647 2147483647");
        Bench.due("the cell, past the least int", desk.kept(0, 7), MOST);
    }

    private static void differencesOfTheDropped() {
        String dropping = "INPUT 2; INPUT 3; IF 1; DROP; END; @ 0; PUT 0 5; GET 0; OUT 0 7";
        Bench.sentence("12 ACROSS a: a of the right one less a of the left one of its row");
        Bench.dueBothWays(dropping.replace("@", "ACROSS"), "1 10 100 1000", "0 0 0 0", "9 9 900 900");
        LaneDesk desk = Bench.dueBothWays(dropping.replace("@", "ACROSS"), "1 10 100 1000", "1 0 0 1", "0 9 900 0");
        Bench.dueRow("the dropped ones have it, too", Bench.keeps(desk, 0), "9 9 900 900");
        Bench.dueBothWays("CONST 7; ACROSS 0; OUT 0 1", NONE, NONE, NONE);
        Bench.sentence("13 DOWN a: of the lower one less that of the upper one");
        Bench.dueBothWays(dropping.replace("@", "DOWN"), "1 10 100 1000", "0 0 0 0", "99 990 99 990");
        desk = Bench.dueBothWays(dropping.replace("@", "DOWN"), "1 10 100 1000", "1 1 1 0", "0 0 0 990");
        Bench.dueRow("the dropped ones have it, too", Bench.keeps(desk, 0), "99 990 99 990");
        Bench.dueBothWays("CONST 7; DOWN 0; OUT 0 1", NONE, NONE, NONE);
    }

    private static void fourOfEach() {
        Bench.sentence("There are four VARIABLES 0..3, four CELLS 0..3 and four OUTPUTS 0..3 of each LANE, and INPUTS.");
        StringBuilder program = new StringBuilder("LANE; CONST 10; MUL 0 1");
        for (int k = 0; k < 4; k++) {
            int at = 3 + 5 * k;
            program.append("; CONST ").append(k + 1).append("; ADD 2 ").append(at).append("; PUT ").append(k).append(' ').append(at + 1);
            program.append("; OUT ").append(k).append(' ').append(at + 1).append("; TAKE ").append(k).append(' ').append(at + 1);
        }
        LaneDesk desk = Bench.desk(program.toString());
        Bench.due("run", desk.run(false), LaneDesk.DONE);
        for (int k = 0; k < 4; k++) {
            String own = (1 + k) + " " + (11 + k) + " " + (21 + k) + " " + (31 + k);
            Bench.dueRow("variable " + k, Bench.keeps(desk, k), own);
            Bench.dueRow("output " + k, Bench.outs(desk, k), own);
            Bench.dueRow("cell " + k, Bench.keeps(desk, k + 4), ((64 + 4 * k) + " ").repeat(4));
        }
    }

    private static void constants() {
        Bench.sentence("0 CONST the int a");
        Bench.dueBothWays("CONST 2147483647; OUT 0 0", NONE, NONE, "2147483647 2147483647 2147483647 2147483647");
        Bench.dueBothWays("CONST -2147483648; OUT 0 0", NONE, NONE, "-2147483648 -2147483648 -2147483648 -2147483648");
        Bench.dueBothWays("CONST 48; OUT 0 0", NONE, NONE, "48 48 48 48");
    }

    private static void inputNumbers() {
        Bench.sentence("1 INPUT number a (0..3)");
        LaneDesk desk = Bench.desk("INPUT 0; OUT 0 0; INPUT 1; OUT 1 2; INPUT 2; OUT 2 4; INPUT 3; OUT 3 6");
        for (int k = 0; k < 4; k++) {
            for (int lane = 0; lane < 4; lane++) {
                desk.input(lane, k, k < 2 ? 50 + k : 10 * k + lane);
            }
        }
        Bench.due("run", desk.run(true), LaneDesk.DONE);
        Bench.dueRow("input 0", Bench.outs(desk, 0), "50 50 50 50");
        Bench.dueRow("input 1", Bench.outs(desk, 1), "51 51 51 51");
        Bench.dueRow("input 2", Bench.outs(desk, 2), "20 21 22 23");
        Bench.dueRow("input 3", Bench.outs(desk, 3), "30 31 32 33");
        Bench.due("there is no input 4", desk.add(1, 4, 0, 0), LaneDesk.BAD);
        Bench.due("there is no input -1", desk.add(1, -1, 0, 0), LaneDesk.BAD);
    }

    private static void comparisons() {
        Bench.sentence("6 LESS, 7 SAME, 8 BOTH (both are not 0): 1 or 0");
        sum("LESS", LEAST, MOST, 1);
        sum("LESS", MOST, LEAST, 0);
        sum("LESS", LEAST, 1, 1);
        sum("LESS", 1, LEAST, 0);
        sum("LESS", -1, 0, 1);
        sum("LESS", 5, 5, 0);
        sum("LESS", LEAST, LEAST, 0);
        sum("SAME", LEAST, LEAST, 1);
        sum("SAME", LEAST, MOST, 0);
        sum("SAME", 0, LEAST, 0);
        sum("SAME", 1, 65537, 0);
    }

    private static void bothAndNot() {
        Bench.sentence("8 BOTH (both are not 0): 1 or 0");
        sum("BOTH", 1, 2, 1);
        sum("BOTH", 65536, 65536, 1);
        sum("BOTH", LEAST, -1, 1);
        sum("BOTH", 0, 7, 0);
        sum("BOTH", 7, 0, 0);
        sum("BOTH", 0, 0, 0);
        Bench.sentence("9 NOT a: 1 if a is 0, else 0");
        Bench.dueBothWays("INPUT 2; NOT 0; OUT 0 1", "0 1 -1 -2147483648", NONE, "1 0 0 0");
        Bench.dueBothWays("INPUT 2; NOT 0; OUT 0 1", "2 0 256 65536", NONE, "0 1 0 0");
    }

    private static void picks() {
        Bench.sentence("10 PICK a b c: b if a is not 0, else c");
        Bench.dueBothWays("INPUT 2; INPUT 3; LANE; PICK 0 1 2; OUT 0 3", "-1 0 -2147483648 2", "50 60 70 80", "50 1 70 80");
        Bench.dueBothWays("INPUT 2; INPUT 3; LANE; PICK 0 1 2; OUT 0 3", "0 1 0 0", "50 60 70 80", "0 60 2 3");
        Bench.dueBothWays("CONST -2147483648; INPUT 3; LANE; PICK 0 1 2; OUT 0 3", NONE, "50 60 70 80", "50 60 70 80");
    }

    private static void variablesOfNoPut() {
        Bench.sentence("11 GET VARIABLE a (0..3)");
        for (int k = 0; k < 4; k++) {
            LaneDesk desk = Bench.dueBothWays("INPUT 2; GET " + k + "; OUT 0 1; PUT " + k + " 0", "5 6 7 8", NONE, NONE);
            Bench.dueRow("put behind it", Bench.keeps(desk, k), "5 6 7 8");
        }
    }

    private static void any() {
        Bench.sentence("14 ANY a: 1 if a is not 0 in some LANE that is ON and not DROPPED, else 0");
        Bench.dueBothWays("INPUT 2; ANY 0; OUT 0 1", NONE, NONE, NONE);
        Bench.dueBothWays("INPUT 2; ANY 0; OUT 0 1", "-2147483648 0 0 0", NONE, "1 1 1 1");
        Bench.dueBothWays("INPUT 2; ANY 0; OUT 0 1", "0 0 0 2", NONE, "1 1 1 1");
        Bench.dueBothWays("INPUT 2; ANY 0; OUT 0 1", "-1 1 0 0", NONE, "1 1 1 1");
        // Only lanes with an input 3 are ON; what is not 0 lies elsewhere.
        Bench.dueBothWays("INPUT 2; INPUT 3; IF 1; ANY 0; CONST 5; ADD 3 4; OUT 0 5; END", "9 0 0 9", "0 1 1 0", "0 5 5 0");
        // Those that are dropped hear of the others, but are not heard.
        String dropping = "INPUT 2; INPUT 3; IF 1; DROP; END; ANY 0; PUT 0 5; GET 0; OUT 0 7";
        LaneDesk desk = Bench.dueBothWays(dropping, "9 0 0 0", "1 0 0 0", NONE);
        Bench.dueRow("the only one is dropped", Bench.keeps(desk, 0), NONE);
        desk = Bench.dueBothWays(dropping, "0 9 0 0", "1 0 1 0", "0 1 0 1");
        Bench.dueRow("the dropped ones hear it", Bench.keeps(desk, 0), "1 1 1 1");
        desk = Bench.dueBothWays(dropping, "9 9 9 9", "1 1 1 1", NONE);
        Bench.dueRow("all are dropped", Bench.keeps(desk, 0), NONE);
    }

    private static void first() {
        Bench.sentence("15 FIRST a: a of the least LANE that is ON and not DROPPED, 0 without one");
        Bench.dueBothWays("INPUT 2; FIRST 0; OUT 0 1", "5 6 7 8", NONE, "5 5 5 5");
        // The least one counts also where its a is 0.
        Bench.dueBothWays("INPUT 2; FIRST 0; OUT 0 1", "0 6 7 8", NONE, NONE);
        Bench.dueBothWays("INPUT 2; INPUT 3; IF 1; FIRST 0; OUT 0 3; END", "5 6 7 8", "0 0 0 1", "0 0 0 8");
        Bench.dueBothWays("INPUT 2; INPUT 3; IF 1; FIRST 0; OUT 0 3; END", "5 6 7 8", "0 1 0 1", "0 6 0 6");
        String dropping = "INPUT 2; INPUT 3; IF 1; DROP; END; FIRST 0; PUT 0 5; GET 0; OUT 0 7";
        LaneDesk desk = Bench.dueBothWays(dropping, "5 6 7 8", "1 0 0 1", "0 6 6 0");
        Bench.dueRow("the dropped ones hear it", Bench.keeps(desk, 0), "6 6 6 6");
        desk = Bench.dueBothWays(dropping, "5 6 7 8", "1 1 1 1", NONE);
        Bench.dueRow("without one", Bench.keeps(desk, 0), NONE);
        // Some are not dropped, but none of those that are ON.
        desk = Bench.dueBothWays("INPUT 2; INPUT 3; CONST 4; PUT 0 2; IF 1; DROP; FIRST 0; PUT 0 6; END; GET 0; OUT 0 9",
                "5 6 7 8", "1 0 0 1", "0 4 4 0");
        Bench.dueRow("without one that is ON", Bench.keeps(desk, 0), "0 4 4 0");
    }

    private static void take() {
        Bench.sentence("one LANE that is ON and not DROPPED after the other, by their numbers");
        LaneDesk desk = Bench.dueBothWays("INPUT 2; TAKE 0 0; OUT 0 1", "1 -10 100 1000", NONE, "0 1 -9 91");
        Bench.dueRow("the cell is the same for all", Bench.keeps(desk, 4), "1091 1091 1091 1091");
        desk = Bench.dueBothWays("INPUT 2; INPUT 3; IF 1; TAKE 3 0; OUT 0 3; END", "1 10 100 1000", "0 1 0 1", "0 0 0 10");
        Bench.due("those that are not ON add nothing", desk.kept(0, 7), 1010);
        desk = Bench.dueBothWays("INPUT 2; TAKE 0 0; TAKE 0 1; OUT 0 2", "1 10 100 1000", NONE, "1111 1111 1112 1123");
        Bench.due("taken twice", desk.kept(3, 4), 1111 + 0 + 1 + 11 + 111);
    }

    private static void takeOfEachCell() {
        Bench.sentence("16 TAKE a b: CELL a (0..3) as it is, which then becomes that and b together:");
        for (int cell = 0; cell < 4; cell++) {
            // What is taken is what was there before: at first 0, and at last all of it for none to take.
            LaneDesk desk = Bench.dueBothWays("INPUT 2; TAKE " + cell + " 0; OUT 0 1", "3 4 5 6", NONE, "0 3 7 12");
            for (int other = 0; other < 4; other++) {
                Bench.due("cell " + other, desk.kept(0, 4 + other), other == cell ? 18 : 0);
            }
            desk = Bench.dueBothWays("CONST 0; TAKE " + cell + " 0; OUT 0 1", NONE, NONE, NONE);
            Bench.due("nothing was added to cell " + cell, desk.kept(0, 4 + cell), 0);
        }
    }

    private static void takeByTheDropped() {
        Bench.sentence("for others that are ON the VALUE is 0");
        String dropping = "INPUT 2; INPUT 3; TAKE 1 0; IF 1; DROP; END; TAKE 1 0; PUT 0 6; GET 0; OUT 0 8";
        LaneDesk desk = Bench.dueBothWays(dropping, "1 10 100 1000", "1 0 1 0", "0 1111 0 1121");
        Bench.dueRow("what they took", Bench.keeps(desk, 0), "0 1111 0 1121");
        Bench.due("the cell", desk.kept(0, 5), 1111 + 1010);
        desk = Bench.dueBothWays(dropping, "1 10 100 1000", "1 1 1 1", NONE);
        Bench.dueRow("all are dropped", Bench.keeps(desk, 0), NONE);
        Bench.due("the cell is left", desk.kept(0, 5), 1111);
    }

    private static void out() {
        Bench.sentence("18 OUT OUTPUT a (0..3) becomes b, if the LANE is not DROPPED");
        String dropping = "INPUT 2; INPUT 3; OUT 0 0; IF 1; DROP; END; LANE; OUT 0 6";
        Bench.dueBothWays(dropping, "5 6 7 8", "1 0 0 1", "5 1 2 8");
        Bench.dueBothWays(dropping, "5 6 7 8", "1 1 1 1", "5 6 7 8");
        Bench.dueBothWays(dropping, "5 6 7 8", NONE, "0 1 2 3");
        Bench.sentence("17 PUT VARIABLE a (0..3) becomes b");
        LaneDesk desk = Bench.dueBothWays("DROP; LANE; PUT 3 1; GET 3; OUT 0 3", NONE, NONE, NONE);
        Bench.dueRow("also of a lane that is dropped", Bench.keeps(desk, 3), "0 1 2 3");
    }

    private static void drop() {
        Bench.sentence("25 DROP the LANES that are ON are DROPPED.");
        Bench.dueStates("DROP", false, LaneDesk.DONE, "1 15 15 1 0");
        Bench.dueStates("DROP; DROP", true, LaneDesk.DONE, "2 15 15 2 0");
        Bench.dueStates("LANE; IF 0; ELSE; DROP; END", false, LaneDesk.DONE, "5 1 15 5 0");
        Bench.dueStates("LANE; IF 0; DROP; END; DROP", false, LaneDesk.DONE, "5 15 15 5 0");
        Bench.dueStates("CONST 0; IF 0; DROP; END", false, LaneDesk.DONE, "3 0 15 4 0");
        Bench.dueStates("LOOP; BREAK; DROP; AGAIN", false, LaneDesk.DONE, "3 0 15 4 0");
    }
}
