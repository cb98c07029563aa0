/** Promises 13 to 23, by hand. */
final class TasksTest {
    private static final int BAD = PlanClauses.BAD, FULL = PlanClauses.FULL;
    private static final int NONE = PlanClauses.NONE, NOTHING = PlanClauses.NOTHING;
    private static final int LEAST = Integer.MIN_VALUE, MOST = Integer.MAX_VALUE;

    private TasksTest() {
    }

    static void run() {
        facts();
        action();
        set();
        plan();
        step();
        state();
        shortest();
        plans();
        code();
        coded();
        largestCode();
        count();
        partsKeepApart();
    }

    /** Two actions: 0 makes fact 1 of fact 0; 1 makes fact 0 of nothing. */
    private static PlanClauses twoActions() {
        PlanClauses x = new PlanClauses();
        x.facts(2);
        x.action(1, 2, 1);
        x.action(0, 1, 0);
        x.set(1, 2);
        return x;
    }

    /** Promise 13. */
    private static void facts() {
        PlanClauses x = new PlanClauses();
        Due.is("13: below", x.facts(-1), BAD);
        Due.is("13: one too many", x.facts(7), BAD);
        Due.is("13: far too many", x.facts(MOST), BAD);
        Due.is("13: the most", x.facts(6), 0);
        x.action(1, 2, 4);
        x.set(0, 33);
        x.set(1, 8);
        Due.is("13: refused, nothing changes", x.facts(7), BAD);
        Due.is("13: action", x.count(4), 1);
        Due.is("13: beginning", x.count(5), 33);
        Due.is("13: goal", x.count(6), 8);
        Due.is("13: plan", x.plan(5), 0);
        Due.is("13: the same number", x.facts(6), 6);
        Due.is("13: no actions", x.count(4), 0);
        Due.is("13: no beginning", x.count(5), 0);
        Due.is("13: no goal", x.count(6), 0);
        Due.is("13: plan of nothing", x.plan(5), 1);
        Due.is("13: the code is another", x.code(1, 1), 18);
        Due.is("13: none", x.facts(0), 6);
        Due.is("13: none", x.count(3), 0);
        Due.is("13: the code of none", x.code(1, 1), 0);
    }

    /** Promise 14. */
    private static void action() {
        PlanClauses x = new PlanClauses();
        Due.is("14: no fact", x.action(1, 0, 0), BAD);
        Due.is("14: of nothing", x.action(0, 0, 0), 0);
        x.facts(3);
        Due.is("14: asks for no fact", x.action(8, 0, 0), BAD);
        Due.is("14: adds no fact", x.action(0, 8, 0), BAD);
        Due.is("14: takes no fact", x.action(0, 0, 8), BAD);
        Due.is("14: below", x.action(-1, 0, 0), BAD);
        Due.is("14: below", x.action(0, -1, 0), BAD);
        Due.is("14: below", x.action(0, 0, LEAST), BAD);
        Due.is("14: none came", x.count(4), 0);
        for (int number = 0; number < 5; number++) {
            Due.is("14: number", x.action(7, 7, 7), number);
        }
        Due.is("14: bad ahead of full", x.action(8, 0, 0), BAD);
        Due.is("14: full", x.action(0, 0, 0), FULL);
        Due.is("14: five", x.count(4), 5);
        PlanClauses y = new PlanClauses();
        y.facts(2);
        y.action(0, 1, 3);
        y.set(0, 2);
        y.set(1, 1);
        Due.is("14: told as both, it is added", y.plan(1), 1);
        Due.is("14: and the other one taken", y.state(1, 1), 1);
        Due.is("14: one clause for it", y.coded(1, 3, 1), 3);
        Due.is("14: one clause for the other", y.coded(1, 4, 1), -4);
    }

    /** Promise 15. */
    private static void set() {
        PlanClauses x = new PlanClauses();
        Due.is("15: no facts", x.set(0, 0), 0);
        Due.is("15: no fact", x.set(0, 1), BAD);
        x.facts(3);
        Due.is("15: beginning", x.set(0, 5), 0);
        Due.is("15: goal", x.set(1, 7), 0);
        Due.is("15: what it was", x.set(0, 2), 5);
        Due.is("15: what it was", x.set(1, 1), 7);
        Due.is("15: beyond", x.set(0, 8), BAD);
        Due.is("15: beyond", x.set(1, 8), BAD);
        Due.is("15: below", x.set(1, -1), BAD);
        Due.is("15: neither", x.set(2, 0), BAD);
        Due.is("15: neither", x.set(-1, 0), BAD);
        Due.is("15: beginning stays", x.count(5), 2);
        Due.is("15: goal stays", x.count(6), 1);
        Due.is("15: no plan", x.plan(0), 0);
        Due.is("15: code begins so", x.coded(0, 0, 0), -1);
        x.set(0, 3);
        Due.is("15: more than the goal will do", x.plan(0), 1);
        Due.is("15: the code begins otherwise", x.coded(0, 0, 0), 1);
        x.set(1, 4);
        Due.is("15: another goal", x.plan(0), 0);
        Due.is("15: the code ends otherwise", x.coded(0, 3, 0), 3);
    }

    /** Promise 16. */
    private static void plan() {
        PlanClauses x = twoActions();
        Due.is("16: below", x.plan(-1), BAD);
        Due.is("16: one too many", x.plan(6), BAD);
        Due.is("16: far too many", x.plan(MOST), BAD);
        Due.is("16: 0", x.plan(0), 0);
        Due.is("16: 1", x.plan(1), 0);
        Due.is("16: 2", x.plan(2), 1);
        Due.is("16: 5", x.plan(5), 1);
        x.set(0, 1);
        Due.is("16: what it asks for holds", x.plan(1), 1);
        x.set(1, 3);
        Due.is("16: it takes", x.plan(1), 0);
        Due.is("16: it comes again", x.plan(2), 1);
    }

    /** Promise 17. */
    private static void step() {
        PlanClauses x = twoActions();
        Due.is("17: no plan", x.step(1, 0), NONE);
        Due.is("17: first", x.step(2, 0), 1);
        Due.is("17: second", x.step(2, 1), 0);
        Due.is("17: beyond", x.step(2, 2), BAD);
        Due.is("17: below", x.step(2, -1), BAD);
        Due.is("17: of none", x.step(0, 0), BAD);
        Due.is("17: no such length", x.step(6, 0), BAD);
        Due.is("17: no such length", x.step(-1, 0), BAD);
        Due.is("17: bad ahead of none", x.step(1, 1), BAD);
        int[] due = {1, 0, 1};
        for (int i = 0; i < 3; i++) {
            Due.is("17: an action is less than nothing", x.step(3, i), due[i]);
        }
        x.set(1, 0);
        x.set(0, 2);
        Due.is("17: what can be done is less", x.step(1, 0), 1);
        PlanClauses y = new PlanClauses();
        y.facts(1);
        y.action(1, 0, 0);
        Due.is("17: nothing", y.step(1, 0), NOTHING);
        y.action(0, 0, 0);
        Due.is("17: an action that changes nothing", y.step(1, 0), 1);
    }

    /** Promise 18. */
    private static void state() {
        PlanClauses x = twoActions();
        Due.is("18: no plan", x.state(1, 0), NONE);
        Due.is("18: no plan of none", x.state(0, 0), NONE);
        Due.is("18: beginning", x.state(2, 0), 0);
        Due.is("18: then", x.state(2, 1), 1);
        Due.is("18: end", x.state(2, 2), 2);
        Due.is("18: beyond", x.state(2, 3), BAD);
        Due.is("18: below", x.state(2, -1), BAD);
        Due.is("18: no such length", x.state(6, 0), BAD);
        Due.is("18: no such length", x.state(-1, -1), BAD);
        Due.is("18: bad ahead of none", x.state(1, 2), BAD);
        Due.is("18: fact 0 once more", x.state(3, 3), 3);
        x.set(0, 3);
        Due.is("18: a plan of none", x.state(0, 0), 3);
    }

    /** Promise 19. */
    private static void shortest() {
        PlanClauses x = new PlanClauses();
        Due.is("19: nothing to do", x.shortest(), 0);
        x.facts(6);
        for (int f = 0; f < 5; f++) {
            x.action((1 << f) >> 1, 1 << f, 0);
        }
        for (int f = 0; f < 5; f++) {
            x.set(1, 1 << f);
            Due.is("19: fact " + f, x.shortest(), f + 1);
        }
        x.set(1, 32);
        Due.is("19: no action adds it", x.shortest(), NONE);
        x.set(0, 8);
        x.set(1, 24);
        Due.is("19: from a later beginning", x.shortest(), 1);
        x.set(0, 63);
        Due.is("19: it holds", x.shortest(), 0);
        PlanClauses y = new PlanClauses();
        y.facts(6);
        for (int f = 0; f < 5; f++) {
            y.action(f == 0 ? 1 : 2 << (f - 1), 2 << f, 0);
        }
        y.set(1, 32);
        y.set(0, 1);
        Due.is("19: five", y.shortest(), 5);
        y.set(0, 0);
        Due.is("19: the first is asked for", y.shortest(), NONE);
    }

    /** Promise 20. */
    private static void plans() {
        PlanClauses x = twoActions();
        Due.is("20: below", x.plans(-1), BAD);
        Due.is("20: one too many", x.plans(6), BAD);
        int[] due = {0, 0, 1, 5, 18, 57};
        for (int t = 0; t <= 5; t++) {
            Due.is("20: of " + t, x.plans(t), due[t]);
        }
        x.action(0, 0, 0);
        Due.is("20: another that changes nothing", x.plans(3), 8);
        x.action(0, 0, 0);
        x.action(0, 0, 0);
        Due.is("20: 60 at most", x.plans(5), 60);
        PlanClauses y = new PlanClauses();
        y.action(0, 0, 0);
        int[] twos = {1, 2, 4, 8, 16, 32};
        for (int t = 0; t <= 5; t++) {
            Due.is("20: twice so many", y.plans(t), twos[t]);
        }
        y.action(0, 0, 0);
        Due.is("20: 27", y.plans(3), 27);
        Due.is("20: 81 are 60", y.plans(4), 60);
    }

    /** Promise 21. */
    private static void code() {
        PlanClauses x = twoActions();
        Due.is("21: below", x.code(-1, 0), BAD);
        Due.is("21: one too many", x.code(6, 0), BAD);
        Due.is("21: no such number", x.code(1, 3), BAD);
        Due.is("21: no such number", x.code(1, -1), BAD);
        int[] clauses = {3, 12, 21, 30, 39, 48};
        int[] literals = {3, 24, 45, 66, 87, 108};
        for (int t = 0; t <= 5; t++) {
            Due.is("21: variables of " + t, x.code(t, 0), 2 * (t + 1) + 2 * t);
            Due.is("21: clauses of " + t, x.code(t, 1), clauses[t]);
            Due.is("21: literals of " + t, x.code(t, 2), literals[t]);
        }
        x.action(0, 0, 0);
        Due.is("21: an action comes", x.code(1, 1), 14);
    }

    /** Promise 22. */
    private static void coded() {
        PlanClauses x = twoActions();
        x.set(0, 1);
        int[][] due = {
            {1}, {-2}, {4},
            {-5, 1},
            {-5, -3}, {-5, 4}, {-6, 3},
            {1, -3, 6}, {-1, 3, 5}, {2, -4, 5}, {-2, 4},
            {-5, -6},
        };
        for (int i = 0; i < due.length; i++) {
            for (int k = 0; k < due[i].length; k++) {
                Due.is("22: clause " + i + " literal " + k, x.coded(1, i, k), due[i][k]);
            }
            Due.is("22: clause " + i + " not so many", x.coded(1, i, due[i].length), NONE);
        }
        Due.is("22: far from so many", x.coded(1, 0, MOST), NONE);
        Due.is("22: no such clause", x.coded(1, due.length, 0), BAD);
        Due.is("22: no such clause", x.coded(1, MOST, MOST), BAD);
        Due.is("22: below", x.coded(1, -1, 0), BAD);
        Due.is("22: below", x.coded(1, 0, -1), BAD);
        Due.is("22: no such length", x.coded(6, 0, 0), BAD);
        Due.is("22: no such length", x.coded(-1, 0, 0), BAD);
        Due.is("22: of none", x.coded(0, 2, 0), 2);
        Due.is("22: of none, no more", x.coded(0, 3, 0), BAD);
        Due.is("22: second step", x.coded(2, 12, 0), -9);
        Due.is("22: second step", x.coded(2, 12, 1), 3);
    }

    /** Promises 21 and 22: there is room for the most that can be told. */
    private static void largestCode() {
        PlanClauses x = new PlanClauses();
        x.facts(6);
        for (int a = 0; a < 5; a++) {
            x.action(63, a % 2 == 0 ? 63 : 0, 63);
        }
        x.set(1, 63);
        Due.is("21: most variables", x.code(5, 0), 61);
        Due.is("21: most clauses", x.code(5, 1), 422);
        Due.is("21: most literals", x.code(5, 2), 982);
        Due.is("22: last clause", x.coded(5, 421, 0), -60);
        Due.is("22: last literal", x.coded(5, 421, 1), -61);
        Due.is("22: behind it", x.coded(5, 421, 2), NONE);
        Due.is("22: no more clauses", x.coded(5, 422, 0), BAD);
    }

    /** Promise 23. */
    private static void count() {
        PlanClauses x = Tell.withVariables(9);
        Tell.clause(x, 1, 2);
        Tell.clause(x, 3);
        x.literal(4);
        x.literal(5);
        x.literal(6);
        x.facts(5);
        x.action(1, 2, 3);
        x.action(1, 2, 3);
        x.action(1, 2, 3);
        x.action(1, 2, 3);
        x.set(0, 17);
        x.set(1, 30);
        int[] due = {9, 2, 3, 5, 4, 17, 30};
        for (int what = 0; what <= 6; what++) {
            Due.is("23: count " + what, x.count(what), due[what]);
        }
        Due.is("23: below", x.count(-1), BAD);
        Due.is("23: beyond", x.count(7), BAD);
        Due.is("23: far beyond", x.count(LEAST), BAD);
    }

    /** Tasks leave the clauses as they are, and the other way round. */
    private static void partsKeepApart() {
        PlanClauses x = twoActions();
        x.variables(3);
        Tell.clause(x, 3);
        Due.is("code", x.code(2, 1), 21);
        Due.is("one clause", x.count(1), 1);
        Due.is("its models", x.models(), 4);
        x.clause();
        Due.is("plans stay", x.plans(5), 57);
        x.facts(1);
        Due.is("clauses stay", x.count(1), 2);
        Due.is("the culprit stays", x.culprit(), 1);
    }
}
