public final class StablePartition {
    public static final int BAD = -1;
    public static final int NONE = -2;

    private static final int STATES = 10;
    private static final int COLOURS = 4;
    private static final int SORTS = 2;
    private static final int STEP_SETS = 20;
    private static final int PAIRS = 100;

    private final int[] colourOf = new int[STATES];

    // The set of states that s has steps of a sort to stands at sort * STATES + s.
    private final int[] targets = new int[STEP_SETS];

    // What follows is worked out anew by settle() before each use, so a change needs no upkeep.
    private final int[] leaderOf = new int[STATES];
    private final int[] finerLeaderOf = new int[STATES];
    private final int[] leaderTargets = new int[STEP_SETS];

    // The first round that tells s from t, or NONE, stands at s * STATES + t.
    private final int[] toldRound = new int[PAIRS];

    public StablePartition() {
    }

    public boolean colour(int s, int colour) {
        if (!isState(s) || colour < 0 || colour >= COLOURS) {
            return false;
        }
        colourOf[s] = colour;
        return true;
    }

    public boolean step(int sort, int s, int t, boolean there) {
        if (!isSort(sort) || !isState(s) || !isState(t)) {
            return false;
        }
        int at = sort * STATES + s;
        if (there) {
            targets[at] |= 1 << t;
        } else {
            targets[at] &= ~(1 << t);
        }
        return true;
    }

    public boolean alike(int s, int t) {
        if (!isState(s) || !isState(t)) {
            return false;
        }
        settle();
        return leaderOf[s] == leaderOf[t];
    }

    public int classes() {
        settle();
        int count = 0;
        for (int s = 0; s < STATES; s++) {
            if (leaderOf[s] == s) {
                count++;
            }
        }
        return count;
    }

    public int leader(int s) {
        if (!isState(s)) {
            return BAD;
        }
        settle();
        return leaderOf[s];
    }

    public int members(int s) {
        if (!isState(s)) {
            return BAD;
        }
        settle();
        int set = 0;
        for (int t = 0; t < STATES; t++) {
            if (leaderOf[t] == leaderOf[s]) {
                set |= 1 << t;
            }
        }
        return set;
    }

    public int told(int s, int t) {
        if (!isState(s) || !isState(t)) {
            return BAD;
        }
        settle();
        return toldRound[s * STATES + t];
    }

    public int leads(int sort, int s) {
        if (!isSort(sort) || !isState(s)) {
            return BAD;
        }
        settle();
        return leaderTargets[sort * STATES + s];
    }

    public int colours() {
        int seen = 0;
        for (int s = 0; s < STATES; s++) {
            seen |= 1 << colourOf[s];
        }
        return sizeOf(seen);
    }

    public int reduce() {
        settle();
        int steps = 0;
        for (int at = 0; at < STEP_SETS; at++) {
            targets[at] = leaderTargets[at];
            steps += sizeOf(targets[at]);
        }
        return steps;
    }

    // The last round that tells any two states apart: after it, states still alike stay alike.
    public int rounds() {
        settle();
        int last = 0;
        for (int pair = 0; pair < PAIRS; pair++) {
            if (toldRound[pair] > last) {
                last = toldRound[pair];
            }
        }
        return last;
    }

    private static boolean isState(int s) {
        return s >= 0 && s < STATES;
    }

    private static boolean isSort(int sort) {
        return sort >= 0 && sort < SORTS;
    }

    private static int sizeOf(int set) {
        int size = 0;
        for (int s = 0; s < STATES; s++) {
            size += (set >> s) & 1;
        }
        return size;
    }

    // Each round that changes anything makes a class more, and there are never more classes than
    // states: so STATES rounds reach the end, and the last of them changes nothing.
    private void settle() {
        splitByColour();
        for (int round = 1; round <= STATES; round++) {
            findLeaderTargets();
            splitBySteps();
            adoptSplit(round);
        }
    }

    private void splitByColour() {
        for (int pair = 0; pair < PAIRS; pair++) {
            toldRound[pair] = NONE;
        }
        for (int s = 0; s < STATES; s++) {
            int first = 0;
            while (first < s && colourOf[first] != colourOf[s]) {
                first++;
            }
            finerLeaderOf[s] = first;
        }
        adoptSplit(0);
    }

    private void findLeaderTargets() {
        for (int at = 0; at < STEP_SETS; at++) {
            int set = 0;
            for (int t = 0; t < STATES; t++) {
                if (((targets[at] >> t) & 1) != 0) {
                    set |= 1 << leaderOf[t];
                }
            }
            leaderTargets[at] = set;
        }
    }

    private void splitBySteps() {
        for (int s = 0; s < STATES; s++) {
            int first = 0;
            while (first < s && !staysAlike(first, s)) {
                first++;
            }
            finerLeaderOf[s] = first;
        }
    }

    private boolean staysAlike(int s, int t) {
        return leaderOf[s] == leaderOf[t]
                && leaderTargets[s] == leaderTargets[t]
                && leaderTargets[STATES + s] == leaderTargets[STATES + t];
    }

    private void adoptSplit(int round) {
        for (int s = 0; s < STATES; s++) {
            leaderOf[s] = finerLeaderOf[s];
        }
        for (int s = 0; s < STATES; s++) {
            for (int t = 0; t < STATES; t++) {
                int pair = s * STATES + t;
                if (toldRound[pair] == NONE && leaderOf[s] != leaderOf[t]) {
                    toldRound[pair] = round;
                }
            }
        }
    }
}
