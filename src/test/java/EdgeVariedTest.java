/** The edges in 'Terms', VARIED and TOGETHER: the numbers, operands and blocks where the one turns into the other. */
public final class EdgeVariedTest {
    public static void main(String[] args) {
        withoutWrong();
        sources();
        operands();
        variablesAndTheSame();
        puts();
        blocksOfIf();
        blocksOfLoop();
        breaksOfOtherLoops();
        whatStandsInside();
        asLittleAsPossible();
        inManyRounds();
        Bench.end();
    }

    private static void rows(String program, String varied, String apart) {
        LaneDesk desk = Bench.desk(program);
        int lines = apart.split(" ").length;
        if (!varied.isEmpty()) {
            Bench.dueRow("varied in " + program, Bench.lanes(desk, lines, 0), varied);
        }
        Bench.dueRow("not together in " + program, Bench.lanes(desk, lines, 1), apart);
    }

    private static void variables(String program, String want) {
        LaneDesk desk = Bench.desk(program);
        Bench.dueRow("variables in " + program,
                desk.varied(0) + " " + desk.varied(1) + " " + desk.varied(2) + " " + desk.varied(3), want);
    }

    /** Whether the last line, which gives a value, is varied. */
    private static void last(String program, int want) {
        LaneDesk desk = Bench.desk(program);
        Bench.due("last of " + program, desk.lanes(program.split(";").length - 1, 0), want);
    }

    private static void withoutWrong() {
        Bench.sentence("VARIED and TOGETHER are found for a PROGRAM with no WRONG of 1 to 3.");
        String good = "LANE; PUT 2 0; IF 0; LANE; END";
        rows(good, "1 -1 -1 1 -1", "0 0 0 1 0");
        variables(good, "0 0 1 0");
        for (String bad : new String[] {"; END", "; NOT 9", "; NOT 3", "; LOOP"}) {
            rows(good + bad, "-1 -1 -1 -1 -1", "-1 -1 -1 -1 -1");
            variables(good + bad, "-1 -1 -1 -1");
        }
        // Wrong of 4 is told of all the same.
        rows("LANE; IF 0; ACROSS 0; PUT 3 2; END", "1 -1 1 -1 -1", "0 0 1 1 0");
        variables("LANE; IF 0; ACROSS 0; PUT 3 2; END", "0 0 0 1");
        variables("", "0 0 0 0");
    }

    private static void sources() {
        Bench.sentence("of INPUT 2 and 3 (0 and 1 are the same for all LANES), LANE and TAKE");
        last("INPUT 0", 0);
        last("INPUT 1", 0);
        last("INPUT 2", 1);
        last("INPUT 3", 1);
        last("LANE", 1);
        for (int cell = 0; cell < 4; cell++) {
            last("CONST 0; TAKE " + cell + " 0", 1);
        }
    }

    private static void operands() {
        Bench.sentence("of 3 to 10, 12, 13 with an operand that is VARIED");
        for (String op : new String[] {"ADD", "SUB", "MUL", "LESS", "SAME", "BOTH"}) {
            last("LANE; CONST 0; " + op + " 1 1", 0);
            last("LANE; CONST 0; " + op + " 0 1", 1);
            last("LANE; CONST 0; " + op + " 1 0", 1);
            // The operands count, not what comes of them.
            last("LANE; CONST 0; " + op + " 0 0", 1);
        }
        for (String op : new String[] {"NOT", "ACROSS", "DOWN"}) {
            last("LANE; CONST 0; " + op + " 1", 0);
            last("LANE; CONST 0; " + op + " 0", 1);
            // b and c are no operands of these.
            last("LANE; CONST 0; " + op + " 1 0 0", 0);
        }
        last("LANE; CONST 0; ADD 1 1 0", 0);
        last("LANE; CONST 0; PICK 1 1 1", 0);
        last("LANE; CONST 0; PICK 0 1 1", 1);
        last("LANE; CONST 0; PICK 1 0 1", 1);
        last("LANE; CONST 0; PICK 1 1 0", 1);
    }

    private static void variablesAndTheSame() {
        Bench.sentence("of GET of a VARIABLE that is VARIED (ANY, FIRST are not, nor CONST).");
        for (int v = 0; v < 4; v++) {
            last("LANE; PUT " + v + " 0; GET " + v, 1);
            last("LANE; PUT " + v + " 0; GET " + (v + 1) % 4, 0);
            last("LANE; CONST 2; PUT " + v + " 1; GET " + v, 0);
        }
        last("LANE; ANY 0", 0);
        last("LANE; FIRST 0", 0);
        last("LANE; CONST 0", 0);
        last("LANE; FIRST 0; ADD 1 1", 0);
        rows("LANE; IF 0; ANY 0; FIRST 0; CONST 1; GET 0; INPUT 0; END", "1 -1 0 0 0 0 0 -1", "0 0 1 1 1 1 1 0");
    }

    private static void puts() {
        Bench.sentence("A VARIABLE is VARIED if a PUT gives it a VARIED VALUE, or is not TOGETHER.");
        variables("GET 0; GET 1; GET 2; GET 3", "0 0 0 0");
        variables("LANE; PUT 0 0", "1 0 0 0");
        variables("LANE; PUT 3 0", "0 0 0 1");
        variables("LANE; CONST 1; PUT 0 1; PUT 1 0; PUT 1 1", "0 1 0 0");
        variables("LANE; CONST 1; IF 0; PUT 2 1; END", "0 0 1 0");
        variables("LANE; CONST 1; IF 0; ELSE; PUT 3 1; END; PUT 2 1", "0 0 0 1");
        variables("LANE; FIRST 0; IF 1; PUT 2 1; END", "0 0 0 0");
        variables("LANE; CONST 1; LOOP; IF 0; BREAK; END; PUT 1 1; AGAIN; PUT 2 1", "0 1 0 0");
        // A PUT that is never come to counts.
        variables("LANE; CONST 0; IF 1; PUT 0 0; END", "1 0 0 0");
        variables("LANE; LOOP; BREAK; PUT 0 0; AGAIN", "1 0 0 0");
    }

    private static void blocksOfIf() {
        Bench.sentence("Not TOGETHER are the LINES in the BLOCKS of an IF whose a is VARIED");
        rows("LANE; IF 0; DROP; ELSE; DROP; END; DROP", "", "0 0 1 0 1 0 0");
        rows("LANE; IF 0; ELSE; END", "", "0 0 0 0");
        rows("INPUT 1; IF 0; DROP; ELSE; DROP; END", "", "0 0 0 0 0 0");
        rows("INPUT 2; ANY 0; IF 1; DROP; ELSE; DROP; END", "", "0 0 0 0 0 0 0");
        rows("LANE; SUB 0 0; IF 1; DROP; END", "", "0 0 0 1 0");
    }

    private static void blocksOfLoop() {
        Bench.sentence("(that is: stands in a BLOCK, inside this LOOP, of an IF whose a is VARIED)");
        rows("LANE; LOOP; DROP; IF 0; BREAK; END; DROP; AGAIN; DROP", "", "0 0 1 1 1 1 1 0 0");
        rows("LANE; LOOP; DROP; IF 0; ELSE; BREAK; END; DROP; AGAIN; DROP", "", "0 0 1 1 1 1 1 1 0 0");
        // BREAK in the LOOP itself, or in an IF that all take.
        rows("LANE; LOOP; IF 0; END; BREAK; AGAIN", "", "0 0 0 0 0 0");
        rows("LANE; ANY 0; LOOP; IF 1; BREAK; END; AGAIN", "", "0 0 0 0 0 0 0");
        // Without a BREAK it is together.
        rows("LANE; LOOP; IF 0; DROP; END; AGAIN", "", "0 0 0 1 0 0");
        // The IF is between LOOP and BREAK, however far.
        rows("LANE; CONST 1; LOOP; IF 0; IF 1; IF 1; BREAK; END; END; END; AGAIN", "", "0 0 0 1 1 1 1 1 1 1 0");
        rows("LANE; CONST 1; LOOP; IF 1; IF 1; IF 0; BREAK; END; END; END; AGAIN", "", "0 0 0 1 1 1 1 1 1 1 0");
        rows("LANE; CONST 1; LOOP; IF 1; ELSE; IF 0; ELSE; IF 1; ELSE; BREAK; END; END; END; AGAIN", "",
                "0 0 0 1 1 1 1 1 1 1 1 1 1 0");
        // One of two BREAKs is enough.
        rows("LANE; LOOP; BREAK; IF 0; BREAK; END; AGAIN", "", "0 0 1 1 1 1 0");
    }

    private static void breaksOfOtherLoops() {
        Bench.sentence("in the BLOCK of a LOOP of which some BREAK is not TOGETHER within it");
        // The IF is around the LOOP: that does not count within it, but all of it stands in such a block.
        rows("LANE; IF 0; LOOP; BREAK; AGAIN; END", "", "0 0 1 1 1 0");
        rows("LANE; LOOP; IF 0; LOOP; BREAK; AGAIN; END; BREAK; AGAIN", "", "0 0 0 1 1 1 0 0 0");
        // A BREAK is of the innermost LOOP; the outer one is together.
        rows("LANE; LOOP; LOOP; IF 0; BREAK; END; AGAIN; BREAK; AGAIN", "", "0 0 0 1 1 1 0 0 0");
        // A BREAK of the outer one takes the inner one with it.
        rows("LANE; LOOP; LOOP; BREAK; AGAIN; IF 0; BREAK; END; AGAIN", "", "0 0 1 1 1 1 1 1 0");
        // Of two LOOPs side by side the one has nothing to do with the other.
        rows("LANE; LOOP; IF 0; BREAK; END; AGAIN; LOOP; BREAK; AGAIN", "", "0 0 1 1 1 0 0 0 0");
    }

    private static void whatStandsInside() {
        Bench.sentence("and what stands in such BLOCKS.");
        rows("LANE; CONST 1; IF 0; IF 1; LOOP; IF 1; DROP; END; BREAK; AGAIN; ELSE; DROP; END; END", "",
                "0 0 0 1 1 1 1 1 1 1 1 1 1 0");
        rows("LANE; CONST 1; IF 1; IF 0; DROP; END; DROP; END; DROP", "", "0 0 0 0 1 0 0 0 0");
    }

    private static void asLittleAsPossible() {
        Bench.sentence("All this as little as possible.");
        // What is varied only if it were varied is not.
        rows("GET 0; PUT 0 0", "0 -1", "0 0");
        rows("GET 0; PUT 1 0; GET 1; PUT 0 2", "0 -1 0 -1", "0 0 0 0");
        rows("GET 0; CONST 1; IF 0; PUT 0 1; END", "0 0 -1 -1 -1", "0 0 0 0 0");
        rows("CONST 1; LOOP; GET 0; IF 2; BREAK; END; PUT 0 0; AGAIN", "0 -1 0 -1 -1 -1 -1 -1", "0 0 0 0 0 0 0 0");
    }

    private static void inManyRounds() {
        Bench.sentence("All this as little as possible.");
        // Only the last line makes it varied, through all four variables and two ways of not being together.
        String chain = "CONST 1; GET 1; IF 1; PUT 0 0; END; LOOP; GET 2; IF 6; BREAK; END; PUT 1 0; AGAIN; GET 3; PUT 2 12; INPUT @; PUT 3 14";
        rows(chain.replace('@', '1'), "0 0 -1 -1 -1 -1 0 -1 -1 -1 -1 -1 0 -1 0 -1", "0 0 0 0 0 0 0 0 0 0 0 0 0 0 0 0");
        variables(chain.replace('@', '1'), "0 0 0 0");
        rows(chain.replace('@', '2'), "0 1 -1 -1 -1 -1 1 -1 -1 -1 -1 -1 1 -1 1 -1", "0 0 0 1 0 0 1 1 1 1 1 0 0 0 0 0");
        variables(chain.replace('@', '2'), "1 1 1 1");
    }
}
