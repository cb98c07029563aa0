import java.util.List;
import java.util.Random;

/** All promises: long runs of calls, each answer compared with that of Plain. */
final class OracleTest {
    private static final int CALLS = 512;
    /** So many calls a turn may make: the last one begins while there is room for them. */
    private static final int MOST_OF_A_TURN = 9;
    private static final int[] FAR = {Integer.MIN_VALUE, Integer.MAX_VALUE, 1 << 30, -64, 64};

    private OracleTest() {
    }

    static void run() {
        for (int seed = 0; seed < 400; seed++) {
            clauseCalls(seed);
        }
        for (int seed = 0; seed < 150; seed++) {
            taskCalls(seed);
        }
        for (int seed = 0; seed < 200; seed++) {
            codeTellsThePlans(seed);
        }
    }

    /** A number from low to high, seldom one far from there. */
    private static int number(Random random, int low, int high) {
        if (random.nextInt(60) == 0) {
            return FAR[random.nextInt(FAR.length)];
        }
        return low + random.nextInt(high - low + 1);
    }

    private static void clauseCalls(int seed) {
        Random random = new Random(seed);
        PlanClauses x = new PlanClauses();
        Plain y = new Plain();
        int n = random.nextInt(9);
        int size = 1 + random.nextInt(4);
        String run = "clauses, seed " + seed + ": ";
        Due.is(run + "variables(" + n + ")", x.variables(n), y.variables(n));
        for (int call = 1; call + MOST_OF_A_TURN <= CALLS; call++) {
            String name = run + "call " + call + " ";
            int v = number(random, -1, n + 1);
            int l = number(random, -n - 1, n + 1);
            int i = number(random, -1, 60);
            int k = number(random, -1, 7);
            switch (random.nextInt(12)) {
                case 0:
                    Due.is(name + "sat(" + l + ")", x.sat(l), y.sat(l));
                    break;
                case 1:
                    Due.is(name + "value(" + v + ")", x.value(v), y.value(v));
                    break;
                case 2:
                    Due.is(name + "model(" + i + ", " + v + ")", x.model(i, v), y.model(i, v));
                    break;
                case 3:
                    Due.is(name + "models()", x.models(), y.models());
                    break;
                case 4:
                    Due.is(name + "forced(" + v + ")", x.forced(v), y.forced(v));
                    break;
                case 5:
                    Due.is(name + "culprit()", x.culprit(), y.culprit());
                    break;
                case 6:
                    Due.is(name + "at(" + i + ", " + k + ")", x.at(i, k), y.at(i, k));
                    break;
                case 7:
                    Due.is(name + "count(" + k + ")", x.count(k), y.count(k));
                    break;
                case 8:
                    boolean none = y.models() == 0;
                    for (int many = random.nextInt(none ? 6 : 2); many > 0; many--) {
                        call++;
                        Due.is(name + "drop()", x.drop(), y.drop());
                    }
                    break;
                case 9:
                    int m = random.nextInt(4) == 0 ? 31 : random.nextInt(9);
                    int answer = x.variables(m);
                    Due.is(name + "variables(" + m + ")", answer, y.variables(m));
                    n = y.count(0);
                    break;
                default:
                    for (int many = random.nextInt(8) == 0 ? 7 : size; many > 0; many--) {
                        int one = number(random, -n, n);
                        call++;
                        Due.is(name + "literal(" + one + ")", x.literal(one), y.literal(one));
                    }
                    if (y.count(2) > 0 || random.nextInt(40) == 0) {
                        Due.is(name + "clause()", x.clause(), y.clause());
                    }
            }
        }
    }

    private static void taskCalls(int seed) {
        Random random = new Random(seed);
        PlanClauses x = new PlanClauses();
        Plain y = new Plain();
        int n = random.nextInt(7);
        String run = "tasks, seed " + seed + ": ";
        Due.is(run + "facts(" + n + ")", x.facts(n), y.facts(n));
        for (int call = 1; call < CALLS; call++) {
            String name = run + "call " + call + " ";
            int t = number(random, -1, 6);
            int i = number(random, -1, 6);
            int c = number(random, -1, 80 * Math.max(1, Math.min(t, 5)));
            int k = number(random, -1, 7);
            switch (random.nextInt(14)) {
                case 0:
                    Due.is(name + "plan(" + t + ")", x.plan(t), y.plan(t));
                    break;
                case 1:
                case 2:
                    Due.is(name + "step(" + t + ", " + i + ")", x.step(t, i), y.step(t, i));
                    break;
                case 3:
                case 4:
                    Due.is(name + "state(" + t + ", " + i + ")", x.state(t, i), y.state(t, i));
                    break;
                case 5:
                    Due.is(name + "shortest()", x.shortest(), y.shortest());
                    break;
                case 6:
                    Due.is(name + "plans(" + t + ")", x.plans(t), y.plans(t));
                    break;
                case 7:
                    Due.is(name + "code(" + t + ", " + k + ")", x.code(t, k), y.code(t, k));
                    break;
                case 8:
                case 9:
                    Due.is(name + "coded(" + t + ", " + c + ", " + k + ")", x.coded(t, c, k), y.coded(t, c, k));
                    break;
                case 10:
                    Due.is(name + "count(" + k + ")", x.count(k), y.count(k));
                    break;
                case 11:
                    int which = number(random, -1, 2);
                    int bits = bits(random, n);
                    Due.is(name + "set(" + which + ", " + bits + ")", x.set(which, bits), y.set(which, bits));
                    break;
                case 12:
                    if (random.nextInt(4) == 0) {
                        int m = number(random, -1, 7);
                        Due.is(name + "facts(" + m + ")", x.facts(m), y.facts(m));
                        n = y.count(3);
                    }
                    break;
                default:
                    int asks = bits(random, n) & bits(random, n);
                    int adds = bits(random, n);
                    int takes = bits(random, n);
                    Due.is(name + "action(" + asks + ", " + adds + ", " + takes + ")",
                        x.action(asks, adds, takes), y.action(asks, adds, takes));
            }
        }
    }

    /** Some facts of n, seldom one that is none. */
    private static int bits(Random random, int n) {
        return number(random, 0, random.nextInt(20) == 0 ? 1 << n : (1 << n) - 1);
    }

    /** The models of the code, as the object tells it, are the plans, each once. */
    private static void codeTellsThePlans(int seed) {
        Random random = new Random(seed);
        PlanClauses x = new PlanClauses();
        Plain y = new Plain();
        int n = random.nextInt(4);
        int actions = random.nextInt(4);
        int t = random.nextInt(4);
        x.facts(n);
        y.facts(n);
        for (int a = 0; a < actions; a++) {
            int asks = random.nextInt(1 << n) & random.nextInt(1 << n);
            int adds = random.nextInt(1 << n);
            int takes = random.nextInt(1 << n);
            x.action(asks, adds, takes);
            y.action(asks, adds, takes);
        }
        int beginning = random.nextInt(1 << n);
        int goal = random.nextInt(1 << n);
        x.set(0, beginning);
        y.set(0, beginning);
        x.set(1, goal);
        y.set(1, goal);
        List<int[]> clauses = y.allCode(t);
        Due.is("clauses of the code, seed " + seed, x.code(t, 1), clauses.size());
        for (int i = 0; i < clauses.size(); i++) {
            int[] clause = clauses.get(i);
            for (int k = 0; k < clause.length; k++) {
                Due.is("code, seed " + seed + ", clause " + i, x.coded(t, i, k), clause[k]);
            }
            Due.is("code, seed " + seed + ", end of clause " + i, x.coded(t, i, clause.length), PlanClauses.NONE);
        }
        long models = countModels(clauses, new int[x.code(t, 0) + 1], 1);
        Due.is("models of the code, seed " + seed, models, y.allPlans(t).size());
    }

    /** Truths 1 and -1, 0 where there is none yet; variables from the given one on are open. */
    private static long countModels(List<int[]> clauses, int[] truths, int variable) {
        for (int[] clause : clauses) {
            boolean canBe = false;
            for (int l : clause) {
                canBe |= truths[Math.abs(l)] != (l > 0 ? -1 : 1);
            }
            if (!canBe) {
                return 0;
            }
        }
        if (variable == truths.length) {
            return 1;
        }
        long sum = 0;
        for (int truth = -1; truth <= 1; truth += 2) {
            truths[variable] = truth;
            sum += countModels(clauses, truths, variable + 1);
        }
        truths[variable] = 0;
        return sum;
    }
}
