/** Fixed runs for each promise, with answers worked out by hand from the document. */
public final class PromisesTest {
    private static final int[] NOT_STATES = {-1, 10, 11, 31, 32, -32, 64, Integer.MIN_VALUE, Integer.MAX_VALUE};
    private static final int[] NOT_COLOURS = {-1, 4, 5, 32, Integer.MIN_VALUE, Integer.MAX_VALUE};
    private static final int[] NOT_SORTS = {-1, 2, 3, 32, Integer.MIN_VALUE, Integer.MAX_VALUE};
    private static final int ALL = 1023;

    private static int wrong = 0;

    private static void due(String what, long got, long want) {
        if (got != want) {
            wrong++;
            System.out.println(what + " answered " + got + ", due is " + want);
        }
    }

    private static void due(String what, boolean got, boolean want) {
        due(what, got ? 1 : 0, want ? 1 : 0);
    }

    public static void main(String[] args) {
        newObject();
        objectsAreApart();
        colour();
        colourRefused();
        step();
        stepRefused();
        alike();
        classes();
        leader();
        members();
        told();
        leads();
        colours();
        reduce();
        rounds();
        askingChangesNothing();
        System.out.println(wrong == 0 ? "all answers are as due" : wrong + " answers are not as due");
        if (wrong != 0) {
            System.exit(1);
        }
    }

    /** Whether the object answers as a new one does: one class, one colour, no steps. */
    private static void dueNew(String what, StablePartition x) {
        due(what + ": classes()", x.classes(), 1);
        due(what + ": colours()", x.colours(), 1);
        due(what + ": rounds()", x.rounds(), 0);
        for (int s = 0; s < 10; s++) {
            due(what + ": leader(" + s + ")", x.leader(s), 0);
            due(what + ": members(" + s + ")", x.members(s), ALL);
            due(what + ": leads(0, " + s + ")", x.leads(0, s), 0);
            due(what + ": leads(1, " + s + ")", x.leads(1, s), 0);
            due(what + ": alike(0, " + s + ")", x.alike(0, s), true);
            due(what + ": told(" + s + ", 9)", x.told(s, 9), StablePartition.NONE);
        }
        due(what + ": reduce()", x.reduce(), 0);
    }

    private static void newObject() {
        dueNew("1 new", new StablePartition());
        // Only with every colour 0 does giving one state colour 0 keep all states alike.
        for (int s = 0; s < 10; s++) {
            StablePartition x = new StablePartition();
            due("1 colour(s, 0)", x.colour(s, 0), true);
            due("1 classes() after colour(" + s + ", 0)", x.classes(), 1);
        }
    }

    private static void objectsAreApart() {
        StablePartition x = new StablePartition();
        StablePartition y = new StablePartition();
        x.colour(3, 2);
        x.step(1, 4, 3, true);
        dueNew("1 another object", y);
        due("1 classes() of the first", x.classes(), 3);
    }

    private static void colour() {
        for (int s = 0; s < 10; s++) {
            for (int c = 0; c < 4; c++) {
                StablePartition x = new StablePartition();
                due("2 colour(" + s + ", " + c + ")", x.colour(s, c), true);
                due("2 members after colour(" + s + ", " + c + ")", x.members(s), c == 0 ? ALL : 1 << s);
                due("2 colour(" + s + ", " + c + ") again", x.colour(s, c), true);
                due("2 colours() after colour(" + s + ", " + c + ")", x.colours(), c == 0 ? 1 : 2);
                due("2 colour(" + s + ", 0)", x.colour(s, 0), true);
                dueNew("2 coloured back", x);
            }
        }
        // The same colour, not merely any colour but 0, makes states alike.
        StablePartition x = new StablePartition();
        x.colour(2, 1);
        x.colour(7, 3);
        due("2 alike(2, 7) with colours 1, 3", x.alike(2, 7), false);
        x.colour(7, 1);
        due("2 alike(2, 7) with colours 1, 1", x.alike(2, 7), true);
    }

    private static void colourRefused() {
        StablePartition x = new StablePartition();
        for (int s : NOT_STATES) {
            due("2 colour(" + s + ", 1)", x.colour(s, 1), false);
            due("2 colour(" + s + ", 4)", x.colour(s, 4), false);
        }
        for (int c : NOT_COLOURS) {
            due("2 colour(0, " + c + ")", x.colour(0, c), false);
            due("2 colour(9, " + c + ")", x.colour(9, c), false);
        }
        dueNew("2 after refusals", x);
        x.colour(5, 2);
        due("2 colour(5, 4)", x.colour(5, 4), false);
        due("2 colour(5, -1)", x.colour(5, -1), false);
        due("2 members(5) after refusals", x.members(5), 1 << 5);
    }

    private static void step() {
        for (int sort = 0; sort < 2; sort++) {
            for (int s = 0; s < 10; s++) {
                for (int t = 0; t < 10; t++) {
                    oneStep(sort, s, t);
                }
            }
        }
        // Taking away one step leaves the others, of the same state and of the other sort.
        StablePartition x = new StablePartition();
        x.colour(1, 1);
        x.colour(2, 2);
        x.step(0, 5, 1, true);
        x.step(0, 5, 2, true);
        x.step(1, 5, 1, true);
        due("3 step(0, 5, 1, false)", x.step(0, 5, 1, false), true);
        due("3 leads(0, 5)", x.leads(0, 5), 1 << 2);
        due("3 leads(1, 5)", x.leads(1, 5), 1 << 1);
        due("3 step(0, 5, 1, false), not there", x.step(0, 5, 1, false), true);
        due("3 leads(0, 5) again", x.leads(0, 5), 1 << 2);
    }

    private static void oneStep(int sort, int s, int t) {
        String call = "step(" + sort + ", " + s + ", " + t + ")";
        StablePartition x = new StablePartition();
        due("3 " + call, x.step(sort, s, t, true), true);
        due("3 " + call + " again", x.step(sort, s, t, true), true);
        due("3 members after " + call, x.members(s), 1 << s);
        due("3 classes() after " + call, x.classes(), 2);
        int rest = s == 0 ? 1 : 0;
        due("3 leads after " + call, x.leads(sort, s), s == t ? 1 << s : 1 << rest);
        due("3 leads of the other sort after " + call, x.leads(1 - sort, s), 0);
        due("3 reduce() after " + call, x.reduce(), 1);
        StablePartition y = new StablePartition();
        y.step(sort, s, t, true);
        due("3 " + call + " taken away", y.step(sort, s, t, false), true);
        dueNew("3 " + call + " taken away", y);
    }

    private static void stepRefused() {
        StablePartition x = new StablePartition();
        for (int bad : NOT_SORTS) {
            due("3 step(" + bad + ", 0, 0, true)", x.step(bad, 0, 0, true), false);
            due("3 step(" + bad + ", 0, 0, false)", x.step(bad, 0, 0, false), false);
        }
        for (int sort = 0; sort < 2; sort++) {
            for (int bad : NOT_STATES) {
                due("3 step(" + sort + ", " + bad + ", 0, true)", x.step(sort, bad, 0, true), false);
                due("3 step(" + sort + ", 0, " + bad + ", true)", x.step(sort, 0, bad, true), false);
                due("3 step(" + sort + ", " + bad + ", " + bad + ", false)", x.step(sort, bad, bad, false), false);
            }
        }
        dueNew("3 after refusals", x);
        // A refused call takes nothing away either.
        for (int s = 0; s < 10; s++) {
            for (int t = 0; t < 10; t++) {
                x.step(0, s, t, true);
                x.step(1, s, t, true);
            }
        }
        for (int bad : NOT_STATES) {
            due("3 step(0, " + bad + ", 0, false)", x.step(0, bad, 0, false), false);
            due("3 step(1, 0, " + bad + ", false)", x.step(1, 0, bad, false), false);
        }
        due("3 step(-1, 9, 0, false)", x.step(-1, 9, 0, false), false);
        due("3 step(2, 0, 0, false)", x.step(2, 0, 0, false), false);
        x.colour(9, 1);
        for (int s = 0; s < 10; s++) {
            due("3 leads(0, " + s + ") of all", x.leads(0, s), 1 | 1 << 9);
            due("3 leads(1, " + s + ") of all", x.leads(1, s), 1 | 1 << 9);
        }
    }

    /** Sort 0: 0 to 1 to 2 to 3, and 5 to 6 to 7; the rest have no steps. */
    private static StablePartition chains() {
        StablePartition x = new StablePartition();
        x.step(0, 0, 1, true);
        x.step(0, 1, 2, true);
        x.step(0, 2, 3, true);
        x.step(0, 5, 6, true);
        x.step(0, 6, 7, true);
        return x;
    }

    /** Sort 0: 0 to 1 to .. to 9, all of one colour: nine rounds, the most that ten states can need. */
    private static StablePartition longChain() {
        StablePartition x = new StablePartition();
        for (int s = 0; s < 9; s++) {
            x.step(0, s, s + 1, true);
        }
        return x;
    }

    /** 0 may step to 3 or 4, 1 to 3 alone, 2 to 4 alone; 4 has a step to itself, 3 to none. */
    private static StablePartition choices() {
        StablePartition x = new StablePartition();
        x.step(1, 4, 4, true);
        x.step(0, 0, 3, true);
        x.step(0, 0, 4, true);
        x.step(0, 1, 3, true);
        x.step(0, 2, 4, true);
        return x;
    }

    private static void alike() {
        StablePartition x = chains();
        due("4 alike(1, 5)", x.alike(1, 5), true);
        due("4 alike(5, 1)", x.alike(5, 1), true);
        due("4 alike(2, 6)", x.alike(2, 6), true);
        due("4 alike(0, 5)", x.alike(0, 5), false);
        due("4 alike(5, 0)", x.alike(5, 0), false);
        due("4 alike(3, 9)", x.alike(3, 9), true);
        due("4 alike(0, 0)", x.alike(0, 0), true);
        due("4 alike(9, 9)", x.alike(9, 9), true);
        // Both ways round: what 1 can do 0 can do, but not the other way.
        StablePartition y = choices();
        due("4 alike(0, 1)", y.alike(0, 1), false);
        due("4 alike(1, 0)", y.alike(1, 0), false);
        due("4 alike(0, 2)", y.alike(0, 2), false);
        due("4 alike(1, 2)", y.alike(1, 2), false);
        // A loop of one state and a loop of two are alike; the sort of the steps counts.
        StablePartition z = new StablePartition();
        z.step(0, 0, 0, true);
        z.step(0, 1, 2, true);
        z.step(0, 2, 1, true);
        z.step(1, 3, 3, true);
        due("4 alike(0, 1) in loops", z.alike(0, 1), true);
        due("4 alike(0, 3) with other sorts", z.alike(0, 3), false);
        for (int bad : NOT_STATES) {
            due("4 alike(" + bad + ", 0)", z.alike(bad, 0), false);
            due("4 alike(9, " + bad + ")", z.alike(9, bad), false);
            due("4 alike(" + bad + ", " + bad + ")", z.alike(bad, bad), false);
        }
    }

    private static void classes() {
        due("5 classes() of chains", chains().classes(), 4);
        due("5 classes() of the long chain", longChain().classes(), 10);
        due("5 classes() of choices", choices().classes(), 5);
        StablePartition x = new StablePartition();
        x.colour(9, 1);
        due("5 classes() with two colours", x.classes(), 2);
        x.colour(8, 2);
        x.colour(7, 3);
        due("5 classes() with four colours", x.classes(), 4);
        x.step(0, 1, 9, true);
        x.step(0, 2, 8, true);
        x.step(0, 3, 9, true);
        due("5 classes() with steps to colours", x.classes(), 6);
    }

    private static void leader() {
        StablePartition x = chains();
        int[] want = {0, 1, 2, 3, 3, 1, 2, 3, 3, 3};
        for (int s = 0; s < 10; s++) {
            due("6 leader(" + s + ")", x.leader(s), want[s]);
        }
        for (int bad : NOT_STATES) {
            due("6 leader(" + bad + ")", x.leader(bad), -1);
        }
        x.colour(3, 1);
        due("6 leader(9) when 3 is coloured", x.leader(9), 4);
    }

    private static void members() {
        StablePartition x = chains();
        int ends = 1 << 3 | 1 << 4 | 1 << 7 | 1 << 8 | 1 << 9;
        int[] want = {1, 1 << 1 | 1 << 5, 1 << 2 | 1 << 6, ends, ends, 1 << 1 | 1 << 5, 1 << 2 | 1 << 6, ends, ends, ends};
        for (int s = 0; s < 10; s++) {
            due("7 members(" + s + ")", x.members(s), want[s]);
        }
        for (int bad : NOT_STATES) {
            due("7 members(" + bad + ")", x.members(bad), -1);
        }
    }

    private static void told() {
        StablePartition x = longChain();
        for (int s = 0; s < 10; s++) {
            for (int t = 0; t < 10; t++) {
                int want = s == t ? -2 : 10 - Math.max(s, t);
                due("8 told(" + s + ", " + t + ") in the long chain", x.told(s, t), want);
            }
        }
        x.colour(0, 1);
        due("8 told(0, 1) of other colours", x.told(0, 1), 0);
        due("8 told(1, 0) of other colours", x.told(1, 0), 0);
        StablePartition y = choices();
        due("8 told(0, 1)", y.told(0, 1), 2);
        due("8 told(2, 1)", y.told(2, 1), 2);
        due("8 told(3, 4)", y.told(3, 4), 1);
        due("8 told(0, 3)", y.told(0, 3), 1);
        due("8 told(3, 9)", y.told(3, 9), -2);
        for (int bad : NOT_STATES) {
            due("8 told(" + bad + ", 0)", y.told(bad, 0), -1);
            due("8 told(9, " + bad + ")", y.told(9, bad), -1);
            // Outside comes before alike, even for a number and itself.
            due("8 told(" + bad + ", " + bad + ")", y.told(bad, bad), -1);
        }
    }

    private static void leads() {
        StablePartition x = chains();
        due("9 leads(0, 0)", x.leads(0, 0), 1 << 1);
        due("9 leads(0, 5)", x.leads(0, 5), 1 << 2);
        due("9 leads(0, 6)", x.leads(0, 6), 1 << 3);
        due("9 leads(0, 9)", x.leads(0, 9), 0);
        due("9 leads(1, 0)", x.leads(1, 0), 0);
        x.step(1, 0, 9, true);
        x.step(1, 0, 8, true);
        x.step(1, 0, 6, true);
        x.step(1, 0, 0, true);
        due("9 leads(1, 0) to many", x.leads(1, 0), 1 | 1 << 2 | 1 << 3);
        due("9 leads(1, 9)", x.leads(1, 9), 0);
        // The last split of the long chain has to show in the leaders too.
        StablePartition y = longChain();
        y.step(1, 9, 1, true);
        for (int s = 0; s < 9; s++) {
            due("9 leads(0, " + s + ") in the long chain", y.leads(0, s), 1 << (s + 1));
        }
        due("9 leads(1, 9) in the long chain", y.leads(1, 9), 1 << 1);
        for (int bad : NOT_STATES) {
            due("9 leads(0, " + bad + ")", x.leads(0, bad), -1);
            due("9 leads(1, " + bad + ")", x.leads(1, bad), -1);
        }
        for (int bad : NOT_SORTS) {
            due("9 leads(" + bad + ", 0)", x.leads(bad, 0), -1);
            due("9 leads(" + bad + ", 10)", x.leads(bad, 10), -1);
        }
    }

    private static void colours() {
        StablePartition x = new StablePartition();
        due("10 colours() of a new object", x.colours(), 1);
        x.colour(0, 3);
        due("10 colours() with 0, 3", x.colours(), 2);
        x.colour(9, 1);
        x.colour(8, 1);
        due("10 colours() with 0, 1, 3", x.colours(), 3);
        x.colour(5, 2);
        due("10 colours() with all", x.colours(), 4);
        x.step(0, 1, 2, true);
        due("10 colours() whatever the steps", x.colours(), 4);
        for (int s = 0; s < 10; s++) {
            x.colour(s, 3);
        }
        due("10 colours() with 3 alone", x.colours(), 1);
    }

    private static void reduce() {
        StablePartition x = new StablePartition();
        // 0 and 1 both lead into the class of 5 to 9, whose leader is 2.
        x.step(0, 0, 5, true);
        x.step(0, 0, 6, true);
        x.step(0, 0, 9, true);
        x.step(0, 1, 7, true);
        x.step(1, 1, 8, true);
        due("11 reduce()", x.reduce(), 3);
        due("11 leads(0, 0)", x.leads(0, 0), 1 << 2);
        due("11 reduce() again", x.reduce(), 3);
        // Colouring shows where the steps really lead now: to 2, and no longer to 5 .. 9.
        for (int t = 5; t < 10; t++) {
            x.colour(t, 1);
        }
        due("11 leads(0, 0) after colouring 5 .. 9", x.leads(0, 0), 1 << 2);
        due("11 leads(0, 1) after colouring 5 .. 9", x.leads(0, 1), 1 << 2);
        due("11 leads(1, 1) after colouring 5 .. 9", x.leads(1, 1), 1 << 2);
        due("11 reduce() after colouring 5 .. 9", x.reduce(), 3);
        // States that don't lead their class keep steps of their own.
        StablePartition y = chains();
        due("11 reduce() of chains", y.reduce(), 5);
        due("11 alike(1, 5) after it", y.alike(1, 5), true);
        y.step(0, 6, 3, false);
        due("11 told(2, 6): 6 led to 3", y.told(2, 6), 1);
        due("11 leads(0, 5): 5 leads to 2, not 6", y.leads(0, 5), 1 << 2);
        fullReduce();
    }

    private static void fullReduce() {
        StablePartition x = new StablePartition();
        for (int s = 0; s < 10; s++) {
            for (int t = 0; t < 10; t++) {
                x.step(0, s, t, true);
                x.step(1, s, t, true);
            }
        }
        due("11 reduce() of all steps", x.reduce(), 20);
        due("11 classes() after it", x.classes(), 1);
        // The steps to 1 .. 9 are gone, so taking away those to 0 leaves none.
        for (int s = 0; s < 10; s++) {
            x.step(0, s, 0, false);
            x.step(1, s, 0, false);
        }
        due("11 reduce() of no steps", x.reduce(), 0);
        StablePartition y = longChain();
        for (int s = 0; s < 10; s++) {
            for (int t = 0; t < 10; t++) {
                y.step(1, s, t, true);
            }
        }
        due("11 reduce() where every state leads", y.reduce(), 109);
    }

    private static void rounds() {
        due("12 rounds() of the long chain", longChain().rounds(), 9);
        due("12 rounds() of chains", chains().rounds(), 3);
        due("12 rounds() of choices", choices().rounds(), 2);
        StablePartition x = new StablePartition();
        x.colour(4, 3);
        due("12 rounds() with colours alone", x.rounds(), 0);
        x.step(1, 9, 9, true);
        due("12 rounds() with one step", x.rounds(), 1);
        x.step(1, 9, 9, false);
        due("12 rounds() without it", x.rounds(), 0);
        for (int s = 0; s < 10; s++) {
            x.colour(s, 0);
            x.step(0, s, (s + 1) % 10, true);
        }
        due("12 rounds() of a ring", x.rounds(), 0);
        x.colour(0, 1);
        due("12 rounds() of a ring with one coloured", x.rounds(), 8);
    }

    private static void askingChangesNothing() {
        StablePartition x = new StablePartition();
        x.step(0, 0, 5, true);
        x.step(0, 0, 6, true);
        x.alike(0, 1);
        x.classes();
        x.leader(0);
        x.members(0);
        x.told(0, 1);
        x.leads(0, 0);
        x.colours();
        x.rounds();
        x.colour(5, 1);
        x.colour(6, 2);
        due("4-12 leads(0, 0) after asking", x.leads(0, 0), 1 << 5 | 1 << 6);
    }
}
