/**
 * Long runs of made-up calls against a slow model that follows the document's terms word by word.
 * The calls come from a fixed arithmetic sequence, so that every run of the test is the same.
 */
public final class ModelTest {
    private static final int RUNS = 300;
    private static final int CALLS = 512;
    // More rounds than 10 states can need: each that changes anything makes one class more.
    private static final int ROUNDS = 15;

    private static int wrong = 0;
    private static long seed = 20261115L;

    private int[] colour = new int[10];
    private boolean[][][] steps = new boolean[2][10][10];
    private boolean[][][] alikeAfter;

    public static void main(String[] args) {
        for (int run = 0; run < RUNS && wrong < 20; run++) {
            new ModelTest().run(run);
        }
        System.out.println(wrong == 0 ? "all answers are as due" : wrong + " answers are not as due");
        if (wrong != 0) {
            System.exit(1);
        }
    }

    private static int pick(int bound) {
        seed = seed * 6364136223846793005L + 1442695040888963407L;
        return (int) ((seed >>> 33) % bound);
    }

    /** Mostly 0 .. bound - 1, now and then a number outside. */
    private static int pickNear(int bound) {
        int[] outside = {-1, bound, bound + 1, Integer.MIN_VALUE, Integer.MAX_VALUE, 32};
        return pick(30) == 0 ? outside[pick(outside.length)] : pick(bound);
    }

    private static void due(int run, String call, long got, long want) {
        if (got != want) {
            wrong++;
            System.out.println("run " + run + ": " + call + " answered " + got + ", due is " + want);
        }
    }

    private static boolean in(int number, int bound) {
        return number >= 0 && number < bound;
    }

    private void run(int run) {
        StablePartition x = new StablePartition();
        // Runs differ in how many steps and colours they keep, since dense ones seldom have alike states.
        int keep = 1 + pick(6);
        int palette = 1 + pick(4);
        for (int call = 0; call < CALLS; call++) {
            if (pick(3) == 0) {
                change(run, x, keep, palette);
                alikeAfter = null;
            } else {
                ask(run, x);
            }
        }
    }

    private void change(int run, StablePartition x, int keep, int palette) {
        int s = pickNear(10);
        int kind = pick(12);
        if (kind == 0) {
            due(run, "reduce()", x.reduce(), reduce());
        } else if (kind <= 2) {
            int c = pick(20) == 0 ? pickNear(4) : pick(palette);
            boolean fine = in(s, 10) && in(c, 4);
            due(run, "colour(" + s + ", " + c + ")", x.colour(s, c) ? 1 : 0, fine ? 1 : 0);
            if (fine) {
                colour[s] = c;
            }
        } else {
            int sort = pickNear(2);
            int t = pickNear(10);
            boolean there = pick(7) < keep;
            boolean fine = in(sort, 2) && in(s, 10) && in(t, 10);
            String call = "step(" + sort + ", " + s + ", " + t + ", " + there + ")";
            due(run, call, x.step(sort, s, t, there) ? 1 : 0, fine ? 1 : 0);
            if (fine) {
                steps[sort][s][t] = there;
            }
        }
    }

    private void ask(int run, StablePartition x) {
        int s = pickNear(10);
        int t = pickNear(10);
        int sort = pickNear(2);
        String pair = "(" + s + ", " + t + ")";
        switch (pick(8)) {
            case 0 -> due(run, "alike" + pair, x.alike(s, t) ? 1 : 0, in(s, 10) && in(t, 10) && alike(s, t) ? 1 : 0);
            case 1 -> due(run, "classes()", x.classes(), classes());
            case 2 -> due(run, "leader(" + s + ")", x.leader(s), in(s, 10) ? leader(s) : -1);
            case 3 -> due(run, "members(" + s + ")", x.members(s), in(s, 10) ? members(s) : -1);
            case 4 -> due(run, "told" + pair, x.told(s, t), in(s, 10) && in(t, 10) ? told(s, t) : -1);
            case 5 -> due(run, "leads(" + sort + ", " + s + ")", x.leads(sort, s), in(sort, 2) && in(s, 10) ? leads(sort, s) : -1);
            case 6 -> due(run, "colours()", x.colours(), java.util.Arrays.stream(colour).distinct().count());
            default -> due(run, "rounds()", x.rounds(), rounds());
        }
    }

    private boolean[][][] alikeAfter() {
        if (alikeAfter == null) {
            alikeAfter = new boolean[ROUNDS + 1][10][10];
            for (int k = 0; k <= ROUNDS; k++) {
                for (int s = 0; s < 10; s++) {
                    for (int t = 0; t < 10; t++) {
                        alikeAfter[k][s][t] = k == 0
                                ? colour[s] == colour[t]
                                : alikeAfter[k - 1][s][t] && matched(k - 1, s, t) && matched(k - 1, t, s);
                    }
                }
            }
        }
        return alikeAfter;
    }

    /** Whether for every step of s, of each sort, t has one to a state alike after k rounds. */
    private boolean matched(int k, int s, int t) {
        for (int sort = 0; sort < 2; sort++) {
            for (int to = 0; to < 10; to++) {
                boolean found = !steps[sort][s][to];
                for (int other = 0; other < 10; other++) {
                    found |= steps[sort][t][other] && alikeAfter[k][to][other];
                }
                if (!found) {
                    return false;
                }
            }
        }
        return true;
    }

    private boolean alike(int s, int t) {
        return alikeAfter()[ROUNDS][s][t];
    }

    private int leader(int s) {
        int leader = 0;
        while (!alike(leader, s)) {
            leader++;
        }
        return leader;
    }

    private int classes() {
        int classes = 0;
        for (int s = 0; s < 10; s++) {
            classes += leader(s) == s ? 1 : 0;
        }
        return classes;
    }

    private int members(int s) {
        int set = 0;
        for (int t = 0; t < 10; t++) {
            set |= alike(s, t) ? 1 << t : 0;
        }
        return set;
    }

    private int told(int s, int t) {
        for (int k = 0; k <= ROUNDS; k++) {
            if (!alikeAfter()[k][s][t]) {
                return k;
            }
        }
        return -2;
    }

    private int leads(int sort, int s) {
        int set = 0;
        for (int t = 0; t < 10; t++) {
            set |= steps[sort][s][t] ? 1 << leader(t) : 0;
        }
        return set;
    }

    private int reduce() {
        boolean[][][] reduced = new boolean[2][10][10];
        int count = 0;
        for (int sort = 0; sort < 2; sort++) {
            for (int s = 0; s < 10; s++) {
                int set = leads(sort, s);
                count += Integer.bitCount(set);
                for (int t = 0; t < 10; t++) {
                    reduced[sort][s][t] = (set >> t & 1) == 1;
                }
            }
        }
        steps = reduced;
        return count;
    }

    private int rounds() {
        int k = 0;
        while (!settledAfter(k)) {
            k++;
        }
        return k;
    }

    private boolean settledAfter(int k) {
        return java.util.Arrays.deepEquals(alikeAfter()[k], alikeAfter()[ROUNDS]);
    }
}
