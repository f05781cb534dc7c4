import java.util.ArrayList;
import java.util.Arrays;
import java.util.List;
import java.util.function.Supplier;
import java.util.function.ToIntFunction;

/**
 * A refused call changes nothing: no later answer is other than if it had not been made. Here that is every
 * call with an argument outside, whether it would change something or only ask.
 */
public final class RefusedTest {
    private static final int BAD = -1;
    private static final int MIN = Integer.MIN_VALUE;
    private static final int MAX = Integer.MAX_VALUE;

    // By one, by far, to the ends of int, and numbers that a shift, a narrow cast or a product would wrap inside.
    private static final int[] OUT_OF_STATES = {-1, -10, -32, MIN + 9, MIN, 10, 11, 19, 32, 41, 256, 65536, MAX};
    private static final int[] OUT_OF_COLOURS = {-1, -4, -256, MIN, 4, 5, 32, 259, MAX};
    private static final int[] OUT_OF_SORTS = {-1, -2, -429496730, MIN, 2, 3, 256, 429496730, MAX};

    private static int wrong = 0;
    private static long seed = 20261116L;

    /** A call, its name, and the answer that is due when it is refused. */
    private record Call(String name, int refusal, ToIntFunction<StablePartition> answer) {
    }

    public static void main(String[] args) {
        List<Call> refused = refusedCalls();
        for (int base = 0; base < 4; base++) {
            eachAlone(base, refused);
            manyInARow(base, refused);
        }
        betweenOtherCalls(refused);
        System.out.println(wrong == 0 ? "all answers are as due" : wrong + " answers are not as due");
        if (wrong != 0) {
            System.exit(1);
        }
    }

    private static void due(String what, int got, int want) {
        if (got != want) {
            wrong++;
            System.out.println(what + " answered " + got + ", due is " + want);
        }
    }

    // ---- the calls

    private static List<Call> refusedCalls() {
        List<Call> calls = new ArrayList<>();
        for (int bad : OUT_OF_STATES) {
            addWithBadState(calls, bad);
        }
        for (int bad : OUT_OF_COLOURS) {
            for (int s = 0; s < 10; s++) {
                calls.add(colour(s, bad));
            }
            calls.add(colour(-1, bad));
            calls.add(colour(10, bad));
        }
        for (int bad : OUT_OF_SORTS) {
            for (int s = 0; s < 10; s++) {
                calls.add(leads(bad, s));
                calls.add(step(bad, s, 9 - s, true));
                calls.add(step(bad, s, s, false));
                calls.add(step(bad, s, (s + 1) % 10, false));
            }
            calls.add(step(bad, -1, 10, true));
            calls.add(leads(bad, 10));
        }
        return calls;
    }

    private static void addWithBadState(List<Call> calls, int bad) {
        calls.add(new Call("leader(" + bad + ")", BAD, x -> x.leader(bad)));
        calls.add(new Call("members(" + bad + ")", BAD, x -> x.members(bad)));
        for (int colour = 0; colour < 4; colour++) {
            calls.add(colour(bad, colour));
        }
        for (int sort = 0; sort < 2; sort++) {
            calls.add(leads(sort, bad));
            calls.add(step(sort, bad, bad, true));
            for (int good : new int[] {0, 5, 9}) {
                calls.add(step(sort, bad, good, true));
                calls.add(step(sort, bad, good, false));
                calls.add(step(sort, good, bad, true));
                calls.add(step(sort, good, bad, false));
            }
        }
        for (int good : new int[] {0, 9}) {
            addPair(calls, bad, good);
            addPair(calls, good, bad);
        }
        addPair(calls, bad, bad);
    }

    private static void addPair(List<Call> calls, int s, int t) {
        calls.add(new Call("alike(" + s + ", " + t + ")", 0, x -> x.alike(s, t) ? 1 : 0));
        calls.add(new Call("told(" + s + ", " + t + ")", BAD, x -> x.told(s, t)));
    }

    private static Call colour(int s, int colour) {
        return new Call("colour(" + s + ", " + colour + ")", 0, x -> x.colour(s, colour) ? 1 : 0);
    }

    private static Call step(int sort, int s, int t, boolean there) {
        String name = "step(" + sort + ", " + s + ", " + t + ", " + there + ")";
        return new Call(name, 0, x -> x.step(sort, s, t, there) ? 1 : 0);
    }

    private static Call leads(int sort, int s) {
        return new Call("leads(" + sort + ", " + s + ")", BAD, x -> x.leads(sort, s));
    }

    // ---- the objects on which they are made

    /** 0: new; 1: a few steps and colours, already asked; 2: every step and all colours; 3: a reduced one. */
    private static StablePartition made(int base) {
        StablePartition x = new StablePartition();
        if (base == 1) {
            x.colour(9, 3);
            x.colour(4, 1);
            x.colour(0, 2);
            for (int s = 0; s < 8; s++) {
                x.step(s % 2, s, s + 2, true);
                x.step(1, s, s, true);
            }
            x.classes();
        } else if (base == 2) {
            for (int at = 0; at < 200; at++) {
                x.step(at / 100, at / 10 % 10, at % 10, true);
            }
            for (int s = 0; s < 10; s++) {
                x.colour(s, (s + 1) % 4);
            }
        } else if (base == 3) {
            for (int s = 0; s < 9; s += 2) {
                x.step(0, s, s + 1, true);
                x.step(1, s, 9 - s, true);
            }
            x.colour(7, 1);
            x.reduce();
        }
        return x;
    }

    // ---- what an object answers later

    /** All that can be asked, the steps and colours themselves too; each part on an object of its own. */
    private static int[] laterAnswers(Supplier<StablePartition> made) {
        List<Integer> answers = new ArrayList<>();
        askClasses(made.get(), answers);
        askRounds(made.get(), answers);
        askLeads(made.get(), answers);
        askColours(made.get(), answers, 0);
        askColours(made.get(), answers, 9);
        for (int t = 0; t < 10; t++) {
            askStepsTo(made.get(), answers, t);
        }
        return answers.stream().mapToInt(Integer::intValue).toArray();
    }

    private static void askClasses(StablePartition x, List<Integer> answers) {
        answers.add(x.classes());
        for (int s = 0; s < 10; s++) {
            answers.add(x.leader(s));
            answers.add(x.members(s));
            for (int t = 0; t < 10; t++) {
                answers.add(x.alike(s, t) ? 1 : 0);
            }
        }
    }

    private static void askRounds(StablePartition x, List<Integer> answers) {
        answers.add(x.rounds());
        for (int pair = 0; pair < 100; pair++) {
            answers.add(x.told(pair / 10, pair % 10));
        }
    }

    private static void askLeads(StablePartition x, List<Integer> answers) {
        answers.add(x.colours());
        for (int at = 0; at < 20; at++) {
            answers.add(x.leads(at / 10, at % 10));
        }
        answers.add(x.reduce());
        for (int at = 0; at < 20; at++) {
            answers.add(x.leads(at / 10, at % 10));
        }
        answers.add(x.colours());
    }

    /** Which colours the others have: told in no round from a state that is given each colour in turn. */
    private static void askColours(StablePartition x, List<Integer> answers, int given) {
        for (int colour = 0; colour < 4; colour++) {
            x.colour(given, colour);
            for (int s = 0; s < 10; s++) {
                answers.add(x.told(s, given) == 0 ? 1 : 0);
            }
        }
    }

    /** Which steps lead to t: as the only state of colour 1 it leads its class. */
    private static void askStepsTo(StablePartition x, List<Integer> answers, int t) {
        for (int s = 0; s < 10; s++) {
            x.colour(s, s == t ? 1 : 0);
        }
        for (int at = 0; at < 20; at++) {
            answers.add(x.leads(at / 10, at % 10) >> t & 1);
        }
    }

    // ---- the tests

    private static void eachAlone(int base, List<Call> refused) {
        int[] want = laterAnswers(() -> made(base));
        for (Call call : refused) {
            due("object " + base + ": " + call.name, call.answer.applyAsInt(made(base)), call.refusal);
            int[] got = laterAnswers(() -> {
                StablePartition x = made(base);
                call.answer.applyAsInt(x);
                return x;
            });
            dueSame("object " + base + ": after " + call.name, got, want);
        }
    }

    /** A hundred at a time, so that no object sees more than 512 calls. */
    private static void manyInARow(int base, List<Call> refused) {
        int[] want = laterAnswers(() -> made(base));
        for (int from = 0; from < refused.size(); from += 100) {
            List<Call> row = refused.subList(from, Math.min(from + 100, refused.size()));
            int[] got = laterAnswers(() -> {
                StablePartition x = made(base);
                for (Call call : row) {
                    due("object " + base + ": " + call.name + " in a row", call.answer.applyAsInt(x), call.refusal);
                }
                return x;
            });
            dueSame("object " + base + ": after refused calls from " + row.get(0).name + " on", got, want);
        }
    }

    private static void dueSame(String what, int[] got, int[] want) {
        if (!Arrays.equals(got, want)) {
            wrong++;
            System.out.println(what + ": a later answer is other than without");
        }
    }

    /** Two objects get the same calls, but one has a refused call before each: they answer alike. */
    private static void betweenOtherCalls(List<Call> refused) {
        for (int run = 0; run < 200; run++) {
            StablePartition x = new StablePartition();
            StablePartition y = new StablePartition();
            for (int turn = 0; turn < 256; turn++) {
                Call call = refused.get(pick(refused.size()));
                due("run " + run + ": " + call.name, call.answer.applyAsInt(x), call.refusal);
                Call next = anyCall();
                String what = "run " + run + ", turn " + turn + ": " + next.name + " after " + call.name;
                due(what, next.answer.applyAsInt(x), next.answer.applyAsInt(y));
            }
        }
    }

    private static Call anyCall() {
        int s = pick(10);
        int t = pick(10);
        int sort = pick(2);
        return switch (pick(16)) {
            case 0 -> colour(s, pick(4));
            case 1, 2, 3 -> step(sort, s, t, true);
            case 4, 5, 6 -> step(sort, s, t, false);
            case 7 -> new Call("alike", 0, x -> x.alike(s, t) ? 1 : 0);
            case 8 -> new Call("classes", 0, StablePartition::classes);
            case 9 -> new Call("leader", 0, x -> x.leader(s));
            case 10 -> new Call("members", 0, x -> x.members(s));
            case 11 -> new Call("told", 0, x -> x.told(s, t));
            case 12 -> leads(sort, s);
            case 13 -> new Call("colours", 0, StablePartition::colours);
            case 14 -> new Call("reduce", 0, StablePartition::reduce);
            default -> new Call("rounds", 0, StablePartition::rounds);
        };
    }

    private static int pick(int bound) {
        seed = seed * 6364136223846793005L + 1442695040888963407L;
        return (int) ((seed >>> 33) % bound);
    }
}
