import java.util.ArrayDeque;
import java.util.Arrays;
import java.util.Deque;

/**
 * Long runs of made-up calls against a slow model that follows the document's terms word by word: calls that
 * change something stand between calls that ask.
 * The calls come from a fixed arithmetic sequence, so that every run of the test is the same.
 */
public final class ModelTest {
    private static final int RUNS = 300;
    private static final int SHAPES = 6;
    private static final int CALLS = 512;
    // More rounds than 10 states can need: each that changes anything makes one class more.
    private static final int ROUNDS = 15;

    private static int wrong = 0;
    private static long seed = 20261115L;

    // Bit n is set when n was the answer due to some call.
    private static int roundsDue = 0;
    private static int classesDue = 0;
    private static int toldDue = 0;

    private final StablePartition x = new StablePartition();
    private int[] colour = new int[10];
    private boolean[][][] steps = new boolean[2][10][10];
    private boolean[][][] alikeAfter;
    private final int run;
    private int calls = 0;

    private ModelTest(int run) {
        this.run = run;
    }

    public static void main(String[] args) {
        for (int run = 0; run < RUNS && wrong < 20; run++) {
            new ModelTest(run).madeUpRun();
        }
        for (int run = RUNS; run < 2 * RUNS && wrong < 20; run++) {
            new ModelTest(run).shapedRun(run % SHAPES);
        }
        if (wrong == 0) {
            allWereDue();
        }
        System.out.println(wrong == 0 ? "all answers are as due" : wrong + " answers are not as due");
        if (wrong != 0) {
            System.exit(1);
        }
    }

    private static int pick(int bound) {
        seed = seed * 6364136223846793005L + 1442695040888963407L;
        return (int) ((seed >>> 33) % bound);
    }

    /** Mostly 0 .. bound - 1, now and then a number outside. */
    private static int pickNear(int bound) {
        int[] outside = {-1, bound, bound + 1, Integer.MIN_VALUE, Integer.MAX_VALUE, 32};
        return pick(30) == 0 ? outside[pick(outside.length)] : pick(bound);
    }

    private void due(String call, long got, long want) {
        calls++;
        if (got != want) {
            wrong++;
            System.out.println("run " + run + ", call " + calls + ": " + call + " answered " + got + ", due is " + want);
        }
    }

    /** The runs are worth little if they don't come to every number of rounds and classes. */
    private static void allWereDue() {
        if (roundsDue != 0b11_1111_1111 || classesDue != 0b111_1111_1110 || toldDue != 0b11_1111_1111) {
            wrong++;
            System.out.println("the runs don't come to all numbers: rounds " + Integer.toBinaryString(roundsDue)
                    + ", classes " + Integer.toBinaryString(classesDue) + ", told " + Integer.toBinaryString(toldDue));
        }
    }

    // ---- runs

    private void madeUpRun() {
        // Runs differ in how many steps and colours they keep, since dense ones seldom have alike states.
        int keep = 1 + pick(6);
        int palette = 1 + pick(4);
        while (calls < CALLS) {
            if (pick(3) == 0) {
                change(keep, palette);
            } else {
                ask();
            }
        }
    }

    private void change(int keep, int palette) {
        int s = pickNear(10);
        int kind = pick(12);
        if (kind == 0) {
            callReduce();
        } else if (kind <= 2) {
            callColour(s, pick(20) == 0 ? pickNear(4) : pick(palette));
        } else {
            callStep(pickNear(2), s, pickNear(10), pick(7) < keep);
        }
    }

    /** Starts from steps that need many rounds, as made-up steps seldom do, and stays near them. */
    private void shapedRun(int shape) {
        makeShape(shape);
        Deque<Runnable> undo = new ArrayDeque<>();
        while (calls < CALLS) {
            if (pick(3) != 0) {
                ask();
            } else if (pick(60) == 0) {
                callReduce();
            } else if (!undo.isEmpty() && pick(3) != 0) {
                undo.pop().run();
            } else {
                undo.push(disturb());
            }
        }
    }

    private void makeShape(int shape) {
        int[] order = shuffled();
        int sort = pick(2);
        for (int i = 0; i < 10; i++) {
            for (int j = 0; j < 10; j++) {
                if (inShape(shape, i, j)) {
                    callStep(sort, order[i], order[j], true);
                }
            }
        }
        if (shape == 1 || shape == 5) {
            callColour(order[9], 1 + pick(3));
        }
    }

    private static boolean inShape(int shape, int i, int j) {
        boolean next = j == i + 1;
        return switch (shape) {
            case 0 -> next;
            case 1 -> j == (i + 1) % 10;
            case 2 -> next && i != 4;
            case 3 -> next || i == j && i != 9;
            case 4 -> j > i;
            default -> !next || i == 0;
        };
    }

    private static int[] shuffled() {
        int[] order = new int[10];
        for (int i = 0; i < 10; i++) {
            int at = pick(i + 1);
            order[i] = order[at];
            order[at] = i;
        }
        return order;
    }

    /** Changes a colour or a step, and answers how to change it back. */
    private Runnable disturb() {
        int s = pick(10);
        if (pick(4) == 0) {
            int before = colour[s];
            callColour(s, pick(4));
            return () -> callColour(s, before);
        }
        int sort = pick(2);
        int t = pick(10);
        boolean before = steps[sort][s][t];
        callStep(sort, s, t, !before);
        return () -> callStep(sort, s, t, before);
    }

    // ---- calls

    private void callColour(int s, int c) {
        boolean fine = in(s, 10) && in(c, 4);
        due("colour(" + s + ", " + c + ")", x.colour(s, c) ? 1 : 0, fine ? 1 : 0);
        if (fine) {
            colour[s] = c;
            alikeAfter = null;
        }
    }

    private void callStep(int sort, int s, int t, boolean there) {
        boolean fine = in(sort, 2) && in(s, 10) && in(t, 10);
        String call = "step(" + sort + ", " + s + ", " + t + ", " + there + ")";
        due(call, x.step(sort, s, t, there) ? 1 : 0, fine ? 1 : 0);
        if (fine) {
            steps[sort][s][t] = there;
            alikeAfter = null;
        }
    }

    private void callReduce() {
        due("reduce()", x.reduce(), reduce());
        alikeAfter = null;
    }

    private void ask() {
        int s = pickNear(10);
        int t = pickNear(10);
        int sort = pickNear(2);
        boolean pairFine = in(s, 10) && in(t, 10);
        String pair = "(" + s + ", " + t + ")";
        switch (pick(8)) {
            case 0 -> due("alike" + pair, x.alike(s, t) ? 1 : 0, pairFine && alike(s, t) ? 1 : 0);
            case 1 -> due("classes()", x.classes(), classes());
            case 2 -> due("leader(" + s + ")", x.leader(s), in(s, 10) ? leader(s) : -1);
            case 3 -> due("members(" + s + ")", x.members(s), in(s, 10) ? members(s) : -1);
            case 4 -> due("told" + pair, x.told(s, t), pairFine ? told(s, t) : -1);
            case 5 -> due("leads(" + sort + ", " + s + ")", x.leads(sort, s), in(sort, 2) && in(s, 10) ? leads(sort, s) : -1);
            case 6 -> due("colours()", x.colours(), Arrays.stream(colour).distinct().count());
            default -> due("rounds()", x.rounds(), rounds());
        }
    }

    private static boolean in(int number, int bound) {
        return number >= 0 && number < bound;
    }

    // ---- the model

    private boolean[][][] alikeAfter() {
        if (alikeAfter == null) {
            alikeAfter = new boolean[ROUNDS + 1][10][10];
            for (int k = 0; k <= ROUNDS; k++) {
                for (int s = 0; s < 10; s++) {
                    for (int t = 0; t < 10; t++) {
                        alikeAfter[k][s][t] = k == 0
                                ? colour[s] == colour[t]
                                : alikeAfter[k - 1][s][t] && matched(k - 1, s, t) && matched(k - 1, t, s);
                    }
                }
            }
        }
        return alikeAfter;
    }

    /** Whether for every step of s, of each sort, t has one to a state alike after k rounds. */
    private boolean matched(int k, int s, int t) {
        for (int sort = 0; sort < 2; sort++) {
            for (int to = 0; to < 10; to++) {
                boolean found = !steps[sort][s][to];
                for (int other = 0; other < 10 && !found; other++) {
                    found = steps[sort][t][other] && alikeAfter[k][to][other];
                }
                if (!found) {
                    return false;
                }
            }
        }
        return true;
    }

    private boolean alike(int s, int t) {
        return alikeAfter()[ROUNDS][s][t];
    }

    private int leader(int s) {
        int leader = 0;
        while (!alike(leader, s)) {
            leader++;
        }
        return leader;
    }

    private int classes() {
        int classes = 0;
        for (int s = 0; s < 10; s++) {
            classes += leader(s) == s ? 1 : 0;
        }
        classesDue |= 1 << classes;
        return classes;
    }

    private int members(int s) {
        int set = 0;
        for (int t = 0; t < 10; t++) {
            set |= alike(s, t) ? 1 << t : 0;
        }
        return set;
    }

    private int told(int s, int t) {
        for (int k = 0; k <= ROUNDS; k++) {
            if (!alikeAfter()[k][s][t]) {
                toldDue |= 1 << k;
                return k;
            }
        }
        return -2;
    }

    private int leads(int sort, int s) {
        int set = 0;
        for (int t = 0; t < 10; t++) {
            set |= steps[sort][s][t] ? 1 << leader(t) : 0;
        }
        return set;
    }

    private int reduce() {
        boolean[][][] reduced = new boolean[2][10][10];
        int count = 0;
        for (int sort = 0; sort < 2; sort++) {
            for (int s = 0; s < 10; s++) {
                int set = leads(sort, s);
                count += Integer.bitCount(set);
                for (int t = 0; t < 10; t++) {
                    reduced[sort][s][t] = (set >> t & 1) == 1;
                }
            }
        }
        steps = reduced;
        return count;
    }

    private int rounds() {
        int k = 0;
        while (!settledAfter(k)) {
            k++;
        }
        roundsDue |= 1 << k;
        return k;
    }

    private boolean settledAfter(int k) {
        return Arrays.deepEquals(alikeAfter()[k], alikeAfter()[ROUNDS]);
    }
}
