import java.util.function.Consumer;
import java.util.function.Supplier;

/**
 * One test for each sentence of the document that names a boundary case; the sentence stands above it.
 * That a refused call changes nothing is tested at length in RefusedTest.
 */
public final class EdgesTest {
    private static final int BAD = -1;
    private static final int NONE = -2;
    private static final int ALL = 1023;
    private static final int MIN = Integer.MIN_VALUE;
    private static final int MAX = Integer.MAX_VALUE;

    // By one, by far, to the ends of int, and numbers that a shift, a narrow cast or a product would wrap inside.
    private static final int[] OUT_OF_STATES = {
        -1, -2, -9, -10, -22, -31, -32, -246, -256, -65536, -429496730, MIN + 9, MIN + 1, MIN,
        10, 11, 15, 16, 19, 20, 31, 32, 41, 64, 100, 256, 265, 65536, 65545, 429496730, 1 << 30, MAX - 1, MAX};
    private static final int[] OUT_OF_COLOURS = {
        -1, -2, -4, -29, -32, -253, -256, -65536, MIN + 3, MIN + 1, MIN,
        4, 5, 7, 8, 10, 31, 32, 35, 64, 256, 259, 65536, 1 << 30, MAX - 1, MAX};
    private static final int[] OUT_OF_SORTS = {
        -1, -2, -31, -32, -255, -256, -65536, -429496730, MIN + 1, MIN,
        2, 3, 4, 10, 31, 32, 33, 256, 257, 65536, 429496730, 1 << 30, MAX - 1, MAX};

    private static int wrong = 0;
    private static String sentence = "";

    private static void due(String what, long got, long want) {
        if (got != want) {
            wrong++;
            System.out.println(sentence + ": " + what + " answered " + got + ", due is " + want);
        }
    }

    private static void due(String what, boolean got, boolean want) {
        due(what, got ? 1 : 0, want ? 1 : 0);
    }

    private static void test(String name, Runnable body) {
        sentence = name;
        try {
            body.run();
        } catch (RuntimeException thrown) {
            wrong++;
            System.out.println(sentence + ": a call threw " + thrown);
        }
    }

    public static void main(String[] args) {
        test("terms, steps to none", EdgesTest::stepsToNone);
        test("terms, steps to itself", EdgesTest::stepsToItself);
        test("terms, steps to any states", EdgesTest::stepsToAnyStates);
        test("terms, alike after 0 rounds", EdgesTest::alikeAfterNoRounds);
        test("terms, alike after k + 1 rounds", EdgesTest::alikeAfterMoreRounds);
        test("terms, class and leader", EdgesTest::classAndLeader);
        test("terms, bits of a set", EdgesTest::bitsOfASet);
        test("512 calls", EdgesTest::lastCall);
        test("promise 1, colours", EdgesTest::newColours);
        test("promise 1, steps", EdgesTest::newSteps);
        test("promise 1, objects", EdgesTest::newObjectsAreApart);
        test("promise 2, inside", EdgesTest::colourInside);
        test("promise 2, outside", EdgesTest::colourOutside);
        test("promise 3, inside", EdgesTest::stepInside);
        test("promise 3, outside", EdgesTest::stepOutside);
        test("promise 3, there already", EdgesTest::stepThereAlready);
        test("promise 3, not there", EdgesTest::stepNotThere);
        test("promise 4, inside", EdgesTest::alikeInside);
        test("promise 4, outside", EdgesTest::alikeOutside);
        test("promise 5, one class", EdgesTest::oneClass);
        test("promise 5, ten classes", EdgesTest::tenClasses);
        test("promise 5, every number", EdgesTest::everyNumberOfClasses);
        test("promise 6, inside", EdgesTest::leaderInside);
        test("promise 6, outside", EdgesTest::leaderOutside);
        test("promise 7, inside", EdgesTest::membersInside);
        test("promise 7, outside", EdgesTest::membersOutside);
        test("promise 8, outside", EdgesTest::toldOutside);
        test("promise 8, outside before alike", EdgesTest::toldOutsideBeforeAlike);
        test("promise 8, alike", EdgesTest::toldAlike);
        test("promise 8, smallest and largest", EdgesTest::toldSmallestAndLargest);
        test("promise 9, outside", EdgesTest::leadsOutside);
        test("promise 9, no steps of the sort", EdgesTest::leadsNowhere);
        test("promise 9, every class", EdgesTest::leadsEverywhere);
        test("promise 10, one colour", EdgesTest::oneColour);
        test("promise 10, four colours", EdgesTest::fourColours);
        test("promise 10, a colour's last state", EdgesTest::lastStateOfAColour);
        test("promise 11, no steps", EdgesTest::reduceNoSteps);
        test("promise 11, every step", EdgesTest::reduceEveryStep);
        test("promise 11, to the leaders alone", EdgesTest::reduceToLeadersAlone);
        test("promise 11, nothing to turn", EdgesTest::reduceNothingToTurn);
        test("promise 11, again", EdgesTest::reduceAgain);
        test("promise 12, smallest", EdgesTest::fewestRounds);
        test("promise 12, largest", EdgesTest::mostRounds);
        test("promise 12, every number", EdgesTest::everyNumberOfRounds);
        System.out.println(wrong == 0 ? "all answers are as due" : wrong + " answers are not as due");
        if (wrong != 0) {
            System.exit(1);
        }
    }

    // ---- objects to ask

    /** Steps of sort 0 from 0 to 1, 1 to 2 and so on, as many as said: one class more than steps, up to ten. */
    private static StablePartition chain(int steps) {
        StablePartition x = new StablePartition();
        for (int s = 0; s < steps; s++) {
            x.step(0, s, s + 1, true);
        }
        return x;
    }

    private static StablePartition everyStep() {
        StablePartition x = new StablePartition();
        for (int s = 0; s < 10; s++) {
            for (int t = 0; t < 10; t++) {
                x.step(0, s, t, true);
                x.step(1, s, t, true);
            }
        }
        return x;
    }

    private static StablePartition ring() {
        StablePartition x = new StablePartition();
        for (int s = 0; s < 10; s++) {
            x.step(1, s, (s + 1) % 10, true);
        }
        return x;
    }

    /** 3, 5, 8 and 9 have steps of sort 0 to themselves, 5 one to 9 as well; 0 and 1 lead into both classes. */
    private static StablePartition loops() {
        StablePartition x = new StablePartition();
        x.step(0, 3, 3, true);
        x.step(0, 5, 5, true);
        x.step(0, 5, 9, true);
        x.step(0, 8, 8, true);
        x.step(0, 9, 9, true);
        for (int t = 4; t < 10; t++) {
            x.step(1, 0, t, true);
        }
        x.step(1, 1, 7, true);
        x.step(1, 1, 9, true);
        return x;
    }

    private static StablePartition colouredAlone(int s, int colour) {
        StablePartition x = new StablePartition();
        x.colour(s, colour);
        return x;
    }

    /** All steps that are there: a state that alone has colour 1 leads its class, so leads tells of it alone. */
    private static int[] stepsOf(Supplier<StablePartition> made) {
        int[] steps = new int[20];
        for (int t = 0; t < 10; t++) {
            StablePartition x = made.get();
            for (int s = 0; s < 10; s++) {
                x.colour(s, s == t ? 1 : 0);
            }
            for (int at = 0; at < 20; at++) {
                steps[at] |= x.leads(at / 10, at % 10) & 1 << t;
            }
        }
        return steps;
    }

    private static void dueSteps(Supplier<StablePartition> made, int[] want) {
        int[] got = stepsOf(made);
        for (int at = 0; at < 20; at++) {
            due("the steps of sort " + at / 10 + " from " + at % 10, got[at], want[at]);
        }
    }

    private static StablePartition after(StablePartition x, Consumer<StablePartition> calls) {
        calls.accept(x);
        return x;
    }

    // ---- Terms

    /** "from a state there may be steps of a sort to any states, itself among them, or none": none. */
    private static void stepsToNone() {
        for (int sort = 0; sort < 2; sort++) {
            for (int s = 0; s < 10; s++) {
                StablePartition x = everyStep();
                for (int t = 0; t < 10; t++) {
                    x.step(sort, s, t, false);
                }
                int other = s == 0 ? 1 : 0;
                due("leads(" + sort + ", " + s + ") of none", x.leads(sort, s), 0);
                due("leads of the other sort", x.leads(1 - sort, s), 1 | 1 << Math.max(s, 1));
                due("members(" + s + ")", x.members(s), 1 << s);
                due("told(" + s + ", " + other + ")", x.told(s, other), 1);
                due("classes()", x.classes(), 2);
            }
        }
    }

    /** "from a state there may be steps of a sort to any states, itself among them, or none": itself. */
    private static void stepsToItself() {
        for (int sort = 0; sort < 2; sort++) {
            for (int s = 0; s < 10; s++) {
                StablePartition x = new StablePartition();
                due("step(" + sort + ", " + s + ", " + s + ", true)", x.step(sort, s, s, true), true);
                due("leads(" + sort + ", " + s + ")", x.leads(sort, s), 1 << s);
                due("members(" + s + ")", x.members(s), 1 << s);
                due("told(" + s + ", " + (9 - s) + ")", x.told(s, 9 - s), 1);
                due("rounds()", x.rounds(), 1);
            }
        }
        // Where all have such a step, and no other, all are alike.
        StablePartition x = new StablePartition();
        for (int s = 0; s < 10; s++) {
            x.step(0, s, s, true);
        }
        due("classes() with a step from each to itself", x.classes(), 1);
        // A step to itself is matched by one to an alike state, not by the same state alone.
        x.step(0, 4, 4, false);
        x.step(0, 4, 9, true);
        due("alike(4, 9)", x.alike(4, 9), true);
    }

    /** "from a state there may be steps of a sort to any states, itself among them, or none": any. */
    private static void stepsToAnyStates() {
        for (int s : new int[] {0, 4, 9}) {
            for (int set = 0; set <= ALL; set++) {
                int from = s;
                int to = set;
                int[] want = new int[20];
                want[from] = to;
                want[10 + from] = ALL - to;
                dueSteps(() -> stepsTo(from, to), want);
            }
        }
    }

    /** Steps of sort 0 to the states in a set, of sort 1 to the others. */
    private static StablePartition stepsTo(int s, int set) {
        StablePartition x = new StablePartition();
        for (int t = 0; t < 10; t++) {
            x.step(1 - (set >> t & 1), s, t, true);
        }
        return x;
    }

    /** "States are ALIKE AFTER 0 rounds iff they have the same colour". */
    private static void alikeAfterNoRounds() {
        for (int s = 0; s < 10; s++) {
            for (int t = 0; t < 10; t++) {
                for (int colours = 0; colours < 16 && s != t; colours++) {
                    int of = colours / 4;
                    int ot = colours % 4;
                    String pair = "told(" + s + ", " + t + ") with colours " + of + ", " + ot;
                    StablePartition x = new StablePartition();
                    x.colour(s, of);
                    x.colour(t, ot);
                    due(pair, x.told(s, t), of == ot ? NONE : 0);
                    // Steps that tell them apart do so after one round, not before.
                    x.step(0, s, s, true);
                    due(pair + " and a step of one", x.told(s, t), of == ot ? 1 : 0);
                    due("rounds() then", x.rounds(), of == ot || of == 0 ? 1 : 0);
                }
            }
        }
    }

    /**
     * "they are alike after k + 1 rounds iff they are alike after k rounds and for each sort, for every state
     * that the one has a step to there is a state alike to it after k rounds that the other has a step to, and
     * the other way round".
     */
    private static void alikeAfterMoreRounds() {
        // Alike after k rounds is asked too: equal steps don't bring other colours together.
        StablePartition x = everyStep();
        x.colour(2, 3);
        due("told(2, 0) with the same steps", x.told(2, 0), 0);
        due("members(2) with the same steps", x.members(2), 1 << 2);
        for (int sort = 0; sort < 2; sort++) {
            // 9 has colour 1; 0 can step to 8 and 9, 1 to 8 alone, 2 to 9 alone, 3 to 7 and 8 and 9.
            StablePartition y = colouredAlone(9, 1);
            y.step(sort, 0, 8, true);
            y.step(sort, 0, 9, true);
            y.step(sort, 1, 8, true);
            y.step(sort, 2, 9, true);
            y.step(sort, 3, 7, true);
            y.step(sort, 3, 8, true);
            y.step(sort, 3, 9, true);
            due("told(0, 1), 0 can do more", y.told(0, 1), 1);
            due("told(1, 0), 0 can do more", y.told(1, 0), 1);
            due("told(0, 2), 0 can do more", y.told(0, 2), 1);
            due("told(2, 0), 0 can do more", y.told(2, 0), 1);
            due("told(1, 2)", y.told(1, 2), 1);
            due("told(0, 3), how many alike states doesn't count", y.told(0, 3), NONE);
            // The other sort counts for itself.
            y.step(1 - sort, 3, 9, true);
            due("told(0, 3), another step of the other sort", y.told(0, 3), 1);
        }
    }

    /** "A CLASS is a largest set of states alike to each other; its LEADER is its smallest state". */
    private static void classAndLeader() {
        StablePartition x = new StablePartition();
        for (int s = 0; s < 10; s++) {
            due("members(" + s + ") of all", x.members(s), ALL);
            due("leader(" + s + ") of all", x.leader(s), 0);
        }
        // State by state leaves for the class of colour 1: the smallest that stays leads, and so does the smallest gone.
        for (int gone = 0; gone < 9; gone++) {
            x.colour(gone, 1);
            int left = (2 << gone) - 1;
            for (int s = 0; s < 10; s++) {
                due("members(" + s + ") when 0 to " + gone + " left", x.members(s), s <= gone ? left : ALL - left);
                due("leader(" + s + ") when 0 to " + gone + " left", x.leader(s), s <= gone ? 0 : gone + 1);
            }
        }
        // From the other end each that comes is the smallest of its class, and takes the lead.
        StablePartition y = new StablePartition();
        for (int come = 9; come >= 0; come--) {
            y.colour(come, 2);
            due("leader(9) when " + come + " comes", y.leader(9), come);
            due("leader(" + come + ") when it comes", y.leader(come), come);
            due("members(9) when " + come + " comes", y.members(9), ALL - (1 << come) + 1);
        }
    }

    /** "A set of states is written as a number whose bit s speaks of state s". */
    private static void bitsOfASet() {
        for (int s = 0; s < 10; s++) {
            StablePartition x = colouredAlone(s, 3);
            due("members(" + s + ") alone", x.members(s), 1 << s);
            due("members of the rest without " + s, x.members(s == 0 ? 9 : 0), ALL - (1 << s));
            x.step(0, 5, s, true);
            due("leads(0, 5) to " + s, x.leads(0, 5), 1 << s);
        }
        due("the empty set", new StablePartition().leads(0, 9), 0);
        due("the full set", new StablePartition().members(9), ALL);
    }

    // ---- What it is

    /** "An object is used for at most 512 calls after it has been made": the last of them is still answered. */
    private static void lastCall() {
        for (int kind = 0; kind < 14; kind++) {
            lastCall("502 calls of kind " + kind + " after the steps, then ", usedAfter(kind));
            lastCall("502 calls of kind " + kind + " before the steps, then ", usedBefore(kind));
        }
    }

    private static void lastCall(String when, Supplier<StablePartition> used) {
        due(when + "classes()", used.get().classes(), 10);
        due(when + "told(0, 1)", used.get().told(0, 1), 9);
        due(when + "told(9, 9)", used.get().told(9, 9), NONE);
        due(when + "alike(8, 9)", used.get().alike(8, 9), false);
        due(when + "leader(9)", used.get().leader(9), 9);
        due(when + "leader(10)", used.get().leader(10), BAD);
        due(when + "members(9)", used.get().members(9), 1 << 9);
        due(when + "leads(0, 8)", used.get().leads(0, 8), 1 << 9);
        due(when + "colours()", used.get().colours(), 1);
        due(when + "reduce()", used.get().reduce(), 9);
        due(when + "rounds()", used.get().rounds(), 9);
        due(when + "colour(9, 3)", used.get().colour(9, 3), true);
        due(when + "colour(9, 4)", used.get().colour(9, 4), false);
        due(when + "step(1, 9, 9, true)", used.get().step(1, 9, 9, true), true);
        due(when + "step(2, 9, 9, true)", used.get().step(2, 9, 9, true), false);
    }

    /** A chain after 511 calls: 9 that make it, and 502 of one kind that leave it as it is. */
    private static Supplier<StablePartition> usedAfter(int kind) {
        return () -> after(chain(9), x -> callOften(x, kind, true));
    }

    /** A chain after 511 calls: 502 of one kind that leave the object new, and 9 that make the chain. */
    private static Supplier<StablePartition> usedBefore(int kind) {
        return () -> after(new StablePartition(), x -> {
            callOften(x, kind, false);
            for (int s = 0; s < 9; s++) {
                x.step(0, s, s + 1, true);
            }
        });
    }

    private static void callOften(StablePartition x, int kind, boolean chained) {
        for (int call = 0; call < 502; call++) {
            switch (kind) {
                case 0 -> x.colour(call % 10, 0);
                case 1 -> x.step(0, call % 9, call % 9 + 1, chained);
                case 2 -> x.alike(call % 10, 9);
                case 3 -> x.classes();
                case 4 -> x.leader(call % 10);
                case 5 -> x.members(call % 10);
                case 6 -> x.told(0, call % 10);
                case 7 -> x.leads(call % 2, call % 10);
                case 8 -> x.colours();
                case 9 -> x.reduce();
                case 10 -> x.rounds();
                case 11 -> x.colour(10 + call, 1);
                case 12 -> x.step(1, 9, 10 + call, true);
                default -> x.told(-1 - call, 0);
            }
        }
    }

    // ---- Promise 1

    /** "All colours are 0". */
    private static void newColours() {
        due("colours()", new StablePartition().colours(), 1);
        for (int s = 0; s < 10; s++) {
            for (int c = 0; c < 4; c++) {
                StablePartition x = new StablePartition();
                for (int t = 0; t < 10; t++) {
                    if (t != s) {
                        x.colour(t, c);
                    }
                }
                String others = " when the others have colour " + c;
                due("members(" + s + ")" + others, x.members(s), c == 0 ? ALL : 1 << s);
                due("colours()" + others, x.colours(), c == 0 ? 1 : 2);
            }
        }
    }

    /** "there are no steps." */
    private static void newSteps() {
        dueSteps(StablePartition::new, new int[20]);
        due("reduce()", new StablePartition().reduce(), 0);
        due("rounds()", new StablePartition().rounds(), 0);
        due("classes()", new StablePartition().classes(), 1);
    }

    /** A new object is new whatever was done to others, before or after it was made. */
    private static void newObjectsAreApart() {
        StablePartition before = new StablePartition();
        StablePartition used = everyStep();
        used.colour(3, 2);
        used.reduce();
        StablePartition later = new StablePartition();
        due("classes() of the one made before", before.classes(), 1);
        due("reduce() of the one made before", before.reduce(), 0);
        due("classes() of the one made later", later.classes(), 1);
        due("reduce() of the one made later", later.reduce(), 0);
        due("reduce() of the used one", used.reduce(), 40);
    }

    // ---- Promise 2

    /** "Sets the colour of a state. [..] Else true.": the ends of both ranges, and the last colour counts. */
    private static void colourInside() {
        for (int s = 0; s < 10; s++) {
            StablePartition x = new StablePartition();
            for (int before = 0; before < 4; before++) {
                for (int c = 0; c < 4; c++) {
                    due("colour(" + s + ", " + before + ")", x.colour(s, before), true);
                    due("colour(" + s + ", " + c + ")", x.colour(s, c), true);
                    due("members(" + s + ") with colour " + c, x.members(s), c == 0 ? ALL : 1 << s);
                    due("colours() with colour " + c, x.colours(), c == 0 ? 1 : 2);
                }
            }
        }
    }

    /** "s outside 0..9 or colour outside 0..3: refused, answers false." */
    private static void colourOutside() {
        for (int s : OUT_OF_STATES) {
            StablePartition x = new StablePartition();
            for (int c = 0; c < 4; c++) {
                due("colour(" + s + ", " + c + ")", x.colour(s, c), false);
            }
            for (int c : OUT_OF_COLOURS) {
                due("colour(" + s + ", " + c + ")", x.colour(s, c), false);
            }
            due("colours() after that", x.colours(), 1);
            due("classes() after that", x.classes(), 1);
        }
        for (int c : OUT_OF_COLOURS) {
            for (int had = 0; had < 4; had++) {
                StablePartition x = new StablePartition();
                for (int s = 0; s < 10; s++) {
                    x.colour(s, had);
                    due("colour(" + s + ", " + c + ")", x.colour(s, c), false);
                }
                due("colours() after that", x.colours(), 1);
                due("classes() after that", x.classes(), 1);
                x.colour(9, (had + 1) % 4);
                due("colours() with one other", x.colours(), 2);
            }
        }
    }

    // ---- Promise 3

    /** "Makes a step of a sort from s to t be there or not. [..] Else true.": every step, there and away again. */
    private static void stepInside() {
        for (int at = 0; at < 200; at++) {
            int sort = at / 100;
            int s = at / 10 % 10;
            int t = at % 10;
            String call = "step(" + sort + ", " + s + ", " + t + ", ";
            due(call + "true)", new StablePartition().step(sort, s, t, true), true);
            due(call + "false)", new StablePartition().step(sort, s, t, false), true);
            int[] one = new int[20];
            one[sort * 10 + s] = 1 << t;
            dueSteps(() -> after(new StablePartition(), x -> x.step(sort, s, t, true)), one);
            int[] rest = new int[20];
            java.util.Arrays.fill(rest, ALL);
            rest[sort * 10 + s] = ALL - (1 << t);
            dueSteps(() -> after(everyStep(), x -> x.step(sort, s, t, false)), rest);
        }
    }

    /** "sort outside 0..1, or s or t outside 0..9: refused, answers false." */
    private static void stepOutside() {
        for (int there = 0; there < 2; there++) {
            for (int at = 0; at < 200; at++) {
                stepOutside(at / 100, at / 10 % 10, at % 10, there == 1);
            }
            for (int sort : OUT_OF_SORTS) {
                for (int s : OUT_OF_STATES) {
                    stepRefused(sort, s, s, there == 1);
                    stepRefused(sort, s, 9, there == 1);
                    stepRefused(sort, 0, s, there == 1);
                    stepRefused(0, s, s, there == 1);
                    stepRefused(1, s, s, there == 1);
                }
            }
        }
    }

    private static void stepOutside(int sort, int s, int t, boolean there) {
        for (int bad : OUT_OF_SORTS) {
            stepRefused(bad, s, t, there);
        }
        for (int bad : OUT_OF_STATES) {
            stepRefused(sort, bad, t, there);
            stepRefused(sort, s, bad, there);
        }
    }

    private static void stepRefused(int sort, int s, int t, boolean there) {
        // Where one step could be made or taken away by mistake, the count of steps would show it.
        StablePartition x = there ? new StablePartition() : chain(9);
        due("step(" + sort + ", " + s + ", " + t + ", " + there + ")", x.step(sort, s, t, there), false);
        due("reduce() after that", x.reduce(), there ? 0 : 9);
    }

    /** A step that is made to be there when it is there already: one taking away is enough. */
    private static void stepThereAlready() {
        for (int at = 0; at < 200; at++) {
            int sort = at / 100;
            int s = at / 10 % 10;
            int t = at % 10;
            StablePartition x = new StablePartition();
            x.step(sort, s, t, true);
            due("step(" + sort + ", " + s + ", " + t + ", true) again", x.step(sort, s, t, true), true);
            due("reduce() with the step there", x.reduce(), 1);
            StablePartition y = new StablePartition();
            y.step(sort, s, t, true);
            y.step(sort, s, t, true);
            y.step(sort, s, t, true);
            due("step(" + sort + ", " + s + ", " + t + ", false)", y.step(sort, s, t, false), true);
            due("leads(" + sort + ", " + s + ") when taken away", y.leads(sort, s), 0);
            due("reduce() when taken away", y.reduce(), 0);
        }
        int[] every = new int[20];
        java.util.Arrays.fill(every, ALL);
        dueSteps(() -> after(everyStep(), x -> {
            for (int at = 0; at < 200; at++) {
                x.step(at / 100, at / 10 % 10, at % 10, true);
            }
        }), every);
    }

    /** A step that is made not to be there when it is not: one making is enough afterwards. */
    private static void stepNotThere() {
        for (int at = 0; at < 200; at++) {
            int sort = at / 100;
            int s = at / 10 % 10;
            int t = at % 10;
            StablePartition x = new StablePartition();
            due("step(" + sort + ", " + s + ", " + t + ", false)", x.step(sort, s, t, false), true);
            due("step(" + sort + ", " + s + ", " + t + ", false) again", x.step(sort, s, t, false), true);
            due("classes() without the step", x.classes(), 1);
            due("reduce() without the step", x.reduce(), 0);
            x.step(sort, s, t, true);
            due("reduce() with the step", x.reduce(), 1);
        }
        dueSteps(() -> after(new StablePartition(), x -> {
            for (int at = 0; at < 200; at++) {
                x.step(at / 100, at / 10 % 10, at % 10, false);
            }
        }), new int[20]);
    }

    // ---- Promise 4

    /** "Whether two states are alike": every pair where all are alike, and where none are but with themselves. */
    private static void alikeInside() {
        StablePartition x = new StablePartition();
        StablePartition y = chain(9);
        for (int s = 0; s < 10; s++) {
            for (int t = 0; t < 10; t++) {
                due("alike(" + s + ", " + t + ") where all are", x.alike(s, t), true);
                due("alike(" + s + ", " + t + ") in a chain", y.alike(s, t), s == t);
            }
        }
    }

    /** "false if a number is outside 0..9". */
    private static void alikeOutside() {
        for (int bad : OUT_OF_STATES) {
            for (StablePartition x : new StablePartition[] {new StablePartition(), everyStep(), chain(9)}) {
                for (int s = 0; s < 10; s++) {
                    due("alike(" + bad + ", " + s + ")", x.alike(bad, s), false);
                    due("alike(" + s + ", " + bad + ")", x.alike(s, bad), false);
                }
                for (int other : OUT_OF_STATES) {
                    due("alike(" + bad + ", " + other + ")", x.alike(bad, other), false);
                }
            }
        }
    }

    // ---- Promise 5

    /** "The number of classes.": all states in one class. */
    private static void oneClass() {
        due("classes() of a new object", new StablePartition().classes(), 1);
        due("classes() with every step", everyStep().classes(), 1);
        due("classes() of a ring", ring().classes(), 1);
        StablePartition x = ring();
        for (int s = 0; s < 10; s++) {
            x.colour(s, 3);
        }
        due("classes() of a ring of colour 3", x.classes(), 1);
    }

    /** "The number of classes.": each in a class of its own. */
    private static void tenClasses() {
        due("classes() of a chain", chain(9).classes(), 10);
        StablePartition x = ring();
        x.colour(6, 1);
        due("classes() of a ring with one coloured", x.classes(), 10);
        // Four colours, and within each a step to itself of sort 0, of sort 1, or none.
        StablePartition y = new StablePartition();
        for (int s = 0; s < 10; s++) {
            y.colour(s, s % 4);
            if (s / 4 == 1) {
                y.step(0, s, s, true);
            } else if (s / 4 == 2) {
                y.step(1, s, s, true);
            }
        }
        due("classes() by colour and sort", y.classes(), 10);
        for (int s = 0; s < 10; s++) {
            due("members(" + s + ") by colour and sort", y.members(s), 1 << s);
        }
    }

    /** From one class to ten and back, a step at a time. */
    private static void everyNumberOfClasses() {
        StablePartition x = new StablePartition();
        for (int s = 0; s < 9; s++) {
            x.step(0, s, s + 1, true);
            due("classes() with " + (s + 1) + " steps", x.classes(), s + 2);
        }
        for (int s = 0; s < 9; s++) {
            x.step(0, s, s + 1, false);
            due("classes() without the first " + (s + 1) + " steps", x.classes(), 9 - s);
        }
    }

    // ---- Promises 6 and 7

    /** "The leader of a state's class": where all are alike, where none are, and two by two. */
    private static void leaderInside() {
        StablePartition x = new StablePartition();
        StablePartition y = chain(9);
        StablePartition z = pairs();
        for (int s = 0; s < 10; s++) {
            due("leader(" + s + ") where all are alike", x.leader(s), 0);
            due("leader(" + s + ") in a chain", y.leader(s), s);
            due("leader(" + s + ") in pairs", z.leader(s), Math.min(s, 9 - s));
        }
    }

    /** Two chains, 0 to 1 to .. 4 and 9 to 8 to .. 5: s and 9 - s are alike. */
    private static StablePartition pairs() {
        StablePartition x = new StablePartition();
        for (int s = 0; s < 4; s++) {
            x.step(0, s, s + 1, true);
            x.step(0, 9 - s, 8 - s, true);
        }
        return x;
    }

    /** "BAD for s outside 0..9". */
    private static void leaderOutside() {
        for (int bad : OUT_OF_STATES) {
            due("leader(" + bad + ") of a new object", new StablePartition().leader(bad), BAD);
            due("leader(" + bad + ") in a chain", chain(9).leader(bad), BAD);
            due("leader(" + bad + ") with every step", everyStep().leader(bad), BAD);
        }
    }

    /** "The class of a state, as a set": all of them, it alone, and two. */
    private static void membersInside() {
        StablePartition x = new StablePartition();
        StablePartition y = chain(9);
        StablePartition z = pairs();
        for (int s = 0; s < 10; s++) {
            due("members(" + s + ") where all are alike", x.members(s), ALL);
            due("members(" + s + ") in a chain", y.members(s), 1 << s);
            due("members(" + s + ") in pairs", z.members(s), 1 << s | 1 << 9 - s);
        }
    }

    /** "BAD for s outside 0..9". */
    private static void membersOutside() {
        for (int bad : OUT_OF_STATES) {
            due("members(" + bad + ") of a new object", new StablePartition().members(bad), BAD);
            due("members(" + bad + ") in a chain", chain(9).members(bad), BAD);
            due("members(" + bad + ") with every step", everyStep().members(bad), BAD);
        }
    }

    // ---- Promise 8

    /** "a number is outside 0..9: BAD": the first, the second, and both. */
    private static void toldOutside() {
        for (int bad : OUT_OF_STATES) {
            for (StablePartition x : new StablePartition[] {new StablePartition(), everyStep(), chain(9)}) {
                for (int s = 0; s < 10; s++) {
                    due("told(" + bad + ", " + s + ")", x.told(bad, s), BAD);
                    due("told(" + s + ", " + bad + ")", x.told(s, bad), BAD);
                }
                for (int other : OUT_OF_STATES) {
                    due("told(" + bad + ", " + other + ")", x.told(bad, other), BAD);
                }
            }
        }
    }

    /** "Tested in this order: a number is outside 0..9: BAD; they are alike: NONE.": a number is like itself. */
    private static void toldOutsideBeforeAlike() {
        for (int bad : OUT_OF_STATES) {
            due("told(" + bad + ", " + bad + ") of a new object", new StablePartition().told(bad, bad), BAD);
            due("told(" + bad + ", " + bad + ") in a chain", chain(9).told(bad, bad), BAD);
        }
    }

    /** "they are alike: NONE": a state with itself, and with others. */
    private static void toldAlike() {
        StablePartition x = new StablePartition();
        StablePartition y = chain(9);
        StablePartition z = pairs();
        for (int s = 0; s < 10; s++) {
            for (int t = 0; t < 10; t++) {
                due("told(" + s + ", " + t + ") where all are alike", x.told(s, t), NONE);
            }
            due("told(" + s + ", " + s + ") in a chain", y.told(s, s), NONE);
            due("told(" + s + ", " + (9 - s) + ") in pairs", z.told(s, 9 - s), NONE);
        }
    }

    /** "The smallest k such that two states are not alike after k rounds.": from 0 to 9, either way round. */
    private static void toldSmallestAndLargest() {
        StablePartition x = colouredAlone(9, 1);
        due("told(0, 9) of other colours", x.told(0, 9), 0);
        due("told(9, 0) of other colours", x.told(9, 0), 0);
        StablePartition y = chain(9);
        for (int t = 1; t < 10; t++) {
            due("told(0, " + t + ") in a chain", y.told(0, t), 10 - t);
            due("told(" + t + ", 0) in a chain", y.told(t, 0), 10 - t);
        }
    }

    // ---- Promise 9

    /** "BAD for sort outside 0..1 or s outside 0..9". */
    private static void leadsOutside() {
        for (StablePartition x : new StablePartition[] {new StablePartition(), everyStep(), chain(9)}) {
            for (int bad : OUT_OF_STATES) {
                due("leads(0, " + bad + ")", x.leads(0, bad), BAD);
                due("leads(1, " + bad + ")", x.leads(1, bad), BAD);
            }
            for (int bad : OUT_OF_SORTS) {
                for (int s = 0; s < 10; s++) {
                    due("leads(" + bad + ", " + s + ")", x.leads(bad, s), BAD);
                }
            }
        }
        for (int sort : OUT_OF_SORTS) {
            StablePartition x = everyStep();
            for (int s : OUT_OF_STATES) {
                due("leads(" + sort + ", " + s + ")", x.leads(sort, s), BAD);
            }
        }
    }

    /** "The leaders of the classes to which a state has steps of a sort": a state that has no steps of the sort. */
    private static void leadsNowhere() {
        for (int sort = 0; sort < 2; sort++) {
            for (int s = 0; s < 10; s++) {
                due("leads(" + sort + ", " + s + ") of a new object", new StablePartition().leads(sort, s), 0);
                // Steps of the other sort, steps to the state, and steps that were there don't count.
                StablePartition x = new StablePartition();
                for (int t = 0; t < 10; t++) {
                    x.step(1 - sort, s, t, true);
                    x.step(sort, t, s, true);
                }
                x.step(sort, s, s, false);
                due("leads(" + sort + ", " + s + ") without a step", x.leads(sort, s), 0);
            }
        }
    }

    /** "The leaders of the classes to which a state has steps of a sort, as a set": one class, and all ten. */
    private static void leadsEverywhere() {
        StablePartition x = everyStep();
        StablePartition y = chain(9);
        for (int s = 0; s < 10; s++) {
            for (int t = 0; t < 10; t++) {
                y.step(1, s, t, true);
            }
        }
        for (int s = 0; s < 10; s++) {
            due("leads(0, " + s + ") with every step, one class", x.leads(0, s), 1);
            due("leads(1, " + s + ") with every step, one class", x.leads(1, s), 1);
            due("leads(0, " + s + ") in a chain", y.leads(0, s), s == 9 ? 0 : 2 << s);
            due("leads(1, " + s + ") to ten classes", y.leads(1, s), ALL);
        }
    }

    // ---- Promise 10

    /** "The number of different colours that states have.": one colour alone. */
    private static void oneColour() {
        due("colours() of a new object", new StablePartition().colours(), 1);
        for (int c = 0; c < 4; c++) {
            StablePartition x = chain(9);
            for (int s = 0; s < 10; s++) {
                x.colour(s, c);
            }
            due("colours() with " + c + " alone", x.colours(), 1);
        }
    }

    /** "The number of different colours that states have.": all four, and each choice of two or three. */
    private static void fourColours() {
        for (int first = 0; first < 4; first++) {
            for (int last = 0; last < 7; last++) {
                StablePartition x = new StablePartition();
                for (int s = 0; s < 10; s++) {
                    x.colour(s, first);
                }
                // The other three colours stand at three states side by side, at either end and between.
                for (int more = 1; more < 4; more++) {
                    x.colour(last + more - 1, (first + more) % 4);
                    due("colours() with " + (more + 1), x.colours(), more + 1);
                }
                due("colours() with all four", x.colours(), 4);
                x.colour(last, (first + 3) % 4);
                due("colours() with one of them gone", x.colours(), 3);
            }
        }
    }

    /** A colour counts as long as one state has it, whichever that is. */
    private static void lastStateOfAColour() {
        for (int last = 0; last < 10; last++) {
            StablePartition x = new StablePartition();
            for (int s = 0; s < 10; s++) {
                if (s != last) {
                    x.colour(s, 2);
                }
            }
            due("colours() with 0 at " + last + " alone", x.colours(), 2);
            x.colour(last, 2);
            due("colours() with 0 gone", x.colours(), 1);
        }
    }

    // ---- Promise 11

    /** "answers the number of steps that there are then": no steps at all. */
    private static void reduceNoSteps() {
        due("reduce() of a new object", new StablePartition().reduce(), 0);
        dueSteps(() -> after(new StablePartition(), StablePartition::reduce), new int[20]);
        StablePartition x = colouredAlone(4, 2);
        due("reduce() with colours and no steps", x.reduce(), 0);
        due("members(4) after that", x.members(4), 1 << 4);
        due("colours() after that", x.colours(), 2);
        StablePartition y = everyStep();
        for (int at = 0; at < 200; at++) {
            y.step(at / 100, at / 10 % 10, at % 10, false);
        }
        due("reduce() when all steps are taken away", y.reduce(), 0);
    }

    /** "answers the number of steps that there are then, of both sorts": every step there. */
    private static void reduceEveryStep() {
        due("reduce() with every step", everyStep().reduce(), 20);
        int[] toFirst = new int[20];
        java.util.Arrays.fill(toFirst, 1);
        dueSteps(() -> after(everyStep(), StablePartition::reduce), toFirst);
        // With every step there, the classes are the colours: each state leads to each of them by both sorts.
        for (int colours = 2; colours <= 4; colours++) {
            int many = colours;
            due("reduce() with every step and " + many + " colours", coloured(everyStep(), many).reduce(), 20 * many);
            int[] toLeaders = new int[20];
            java.util.Arrays.fill(toLeaders, (1 << many) - 1);
            dueSteps(() -> after(coloured(everyStep(), many), StablePartition::reduce), toLeaders);
        }
    }

    private static StablePartition coloured(StablePartition x, int colours) {
        for (int s = 0; s < 10; s++) {
            x.colour(s, s % colours);
        }
        return x;
    }

    /** "Makes every state's steps of each sort lead to the leaders of the classes to which they led, and to no others". */
    private static void reduceToLeadersAlone() {
        // Classes: 0 with steps of sort 1 to both others, and 1 as well; 3, 5, 8, 9 that loop; 2, 4, 6, 7 that stop.
        due("classes() before", loops().classes(), 3);
        due("reduce()", loops().reduce(), 8);
        int[] want = new int[20];
        want[3] = want[5] = want[8] = want[9] = 1 << 3;
        want[10] = want[11] = 1 << 2 | 1 << 3;
        dueSteps(() -> after(loops(), StablePartition::reduce), want);
        // Neither the colours nor what is alike change by it.
        StablePartition x = loops();
        x.colour(0, 3);
        int[] members = new int[10];
        for (int s = 0; s < 10; s++) {
            members[s] = x.members(s);
        }
        x.reduce();
        for (int s = 0; s < 10; s++) {
            due("members(" + s + ") after reduce()", x.members(s), members[s]);
        }
        due("colours() after reduce()", x.colours(), 2);
        due("told(0, 1) after reduce()", x.told(0, 1), 0);
    }

    /** Where each state leads its class every step stays, be there few or nearly all 200. */
    private static void reduceNothingToTurn() {
        due("reduce() of a chain", chain(9).reduce(), 9);
        int[] inChain = new int[20];
        for (int s = 0; s < 9; s++) {
            inChain[s] = 2 << s;
        }
        dueSteps(() -> after(chain(9), StablePartition::reduce), inChain);
        due("classes() with nearly every step", nearlyEveryStep().classes(), 10);
        due("rounds() with nearly every step", nearlyEveryStep().rounds(), 8);
        due("reduce() with nearly every step", nearlyEveryStep().reduce(), 192);
    }

    /** 9 alone has colour 1; 8 has no step of sort 0 to 9, 7 none to 8, and so on to 1: ten classes in eight rounds. */
    private static StablePartition nearlyEveryStep() {
        StablePartition x = everyStep();
        x.colour(9, 1);
        for (int s = 1; s < 9; s++) {
            x.step(0, s, s + 1, false);
        }
        return x;
    }

    /** A second time there is nothing left to turn, until a colour or a step changes. */
    private static void reduceAgain() {
        StablePartition x = loops();
        due("reduce()", x.reduce(), 8);
        due("reduce() again", x.reduce(), 8);
        // All loops lead to 3, so when 3 is coloured they still do, and 3 leads to itself.
        x.colour(3, 1);
        due("leads(0, 9) when 3 is coloured", x.leads(0, 9), 1 << 3);
        due("leads(0, 3) when 3 is coloured", x.leads(0, 3), 1 << 3);
        due("leads(1, 0) when 3 is coloured", x.leads(1, 0), 1 << 2 | 1 << 3);
        due("reduce() when 3 is coloured", x.reduce(), 8);
        x.step(1, 1, 9, true);
        due("reduce() with one step more", x.reduce(), 9);
        due("leads(1, 1) with one step more", x.leads(1, 1), 1 << 2 | 1 << 3 | 1 << 5);
    }

    // ---- Promise 12

    /** "The smallest k such that any two states that are alike after k rounds are alike.": 0, the smallest. */
    private static void fewestRounds() {
        due("rounds() of a new object", new StablePartition().rounds(), 0);
        due("rounds() with every step", everyStep().rounds(), 0);
        due("rounds() of a ring", ring().rounds(), 0);
        for (int colours = 2; colours <= 4; colours++) {
            due("rounds() with " + colours + " colours alone", coloured(new StablePartition(), colours).rounds(), 0);
            due("rounds() with them and every step", coloured(everyStep(), colours).rounds(), 0);
        }
    }

    /** "The smallest k such that any two states that are alike after k rounds are alike.": 9, the largest. */
    private static void mostRounds() {
        due("rounds() of a chain", chain(9).rounds(), 9);
        StablePartition back = new StablePartition();
        for (int s = 9; s > 0; s--) {
            back.step(1, s, s - 1, true);
        }
        due("rounds() of a chain the other way", back.rounds(), 9);
        // Each colour more is a class more at the start, and a round less at the most.
        for (int colours = 2; colours <= 4; colours++) {
            StablePartition x = chain(11 - colours);
            for (int c = 1; c < colours; c++) {
                x.colour(10 - colours + c, c);
            }
            due("rounds() of a chain with " + colours + " colours", x.rounds(), 10 - colours);
            due("classes() of a chain with " + colours + " colours", x.classes(), 10);
        }
    }

    /** From 0 to 9 and back, a step at a time. */
    private static void everyNumberOfRounds() {
        StablePartition x = new StablePartition();
        for (int s = 0; s < 9; s++) {
            x.step(0, s, s + 1, true);
            due("rounds() with " + (s + 1) + " steps", x.rounds(), s + 1);
        }
        for (int s = 0; s < 9; s++) {
            x.step(0, s, s + 1, false);
            due("rounds() without the first " + (s + 1) + " steps", x.rounds(), 8 - s);
        }
    }
}
