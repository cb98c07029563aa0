import java.util.Arrays;
import java.util.HashSet;
import java.util.List;
import java.util.Set;

/** The document's terms, with their numbers: a test of its own for each. */
final class TermsBoundsTest {
    private static final int BAD = PlanClauses.BAD, FULL = PlanClauses.FULL;
    private static final int NONE = PlanClauses.NONE, NOTHING = PlanClauses.NOTHING;

    private TermsBoundsTest() {
    }

    // ---- how long an object is used

    /** 6 calls, 504 calls that are looked at, and the 511th and the 512th. */
    @Says(promise = Sentences.USE, words = "An object is used for at most 512 calls after it has been made;"
        + " what later calls answer is free.")
    static void useOf512Calls() {
        PlanClauses x = Tell.withVariables(2);
        Tell.clause(x, 1, 2);
        x.facts(1);
        x.action(0, 1, 0);
        for (int turn = 0; turn < 63; turn++) {
            Due.is(x.models(), 3);
            Due.is(x.sat(-2), 1);
            Due.is(x.drop(), 0);
            Due.is(x.plans(5), 32);
            Due.is(x.literal(turn % 2 == 0 ? -1 : 1), 1);
            Due.is(x.literal(turn % 2 == 0 ? -2 : 2), 2);
            Due.is(x.clause(), 1);
            Due.is(x.models(), 3);
        }
        Due.is(x.value(2), 0);
        Due.is(x.culprit(), NONE);
    }

    // ---- clauses and models

    @Says(promise = Sentences.TERMS, words = "CLAUSES (400 at most)")
    static void clausesFourHundredAtMost() {
        PlanClauses x = new PlanClauses();
        Tell.clausesOfNone(x, 399);
        Due.is(x.clause(), 400);
        Due.is(x.clause(), FULL);
        Due.is(x.at(399, 0), NONE);
        Due.is(x.at(400, 0), BAD);
    }

    @Says(promise = Sentences.TERMS, words = "are of LITERALS (6 at most each),")
    static void literalsSixAtMost() {
        PlanClauses x = Tell.withVariables(7);
        for (int many = 0; many <= 6; many++) {
            for (int v = 1; v <= many; v++) {
                Due.is(x.literal(-v), v);
            }
            if (many == 6) {
                Due.is(x.literal(7), FULL);
            }
            Due.is(x.clause(), many + 1);
            Due.is(x.at(many, many), NONE);
            Due.is(x.at(many, many - 1), many == 0 ? BAD : -many);
        }
    }

    @Says(promise = Sentences.TERMS, words = "v or -v, v a VARIABLE 1 .. 30;")
    static void literalsOfThirtyVariables() {
        for (int sign = -1; sign <= 1; sign += 2) {
            PlanClauses x = Tell.withVariables(30);
            for (int v = 1; v <= 30; v++) {
                Due.is(x.literal(sign * v), 1);
                Due.is(x.clause(), v);
                Due.is(x.at(v - 1, 0), sign * v);
                Due.is(x.value(v), sign > 0 ? 1 : 0);
                Due.is(x.forced(v), sign > 0 ? 1 : 0);
            }
            Due.is(x.literal(0), BAD);
            Due.is(x.literal(31), BAD);
            Due.is(x.literal(-31), BAD);
            Due.is(x.models(), 1);
        }
    }

    @Says(promise = Sentences.TERMS, words = "a MODEL is a truth (0, 1) for each VARIABLE there is,")
    static void modelsHaveVariablesOfNoClause() {
        PlanClauses x = Tell.withVariables(3);
        Tell.clause(x, 2);
        Due.is(x.models(), 4);
        int[][] due = {{0, 1, 0}, {0, 1, 1}, {1, 1, 0}, {1, 1, 1}};
        for (int i = 0; i < due.length; i++) {
            for (int v = 1; v <= 3; v++) {
                Due.is(x.model(i, v), due[i][v - 1]);
            }
        }
    }

    @Says(promise = Sentences.TERMS, words = "a MODEL is a truth (0, 1) for each VARIABLE there is,")
    static void modelOfNoVariables() {
        PlanClauses x = new PlanClauses();
        Due.is(x.models(), 1);
        Due.is(x.sat(0), 1);
        Due.is(x.culprit(), NONE);
    }

    @Says(promise = Sentences.TERMS, words = "with which each CLAUSE has a LITERAL that is true")
    static void modelsWithClausesOfNone() {
        PlanClauses x = Tell.withVariables(30);
        Tell.clause(x, 1, 2, 3, 4, 5, 6);
        Due.is(x.models(), 60);
        x.clause();
        Due.is(x.models(), 0);
        Due.is(x.sat(0), 0);
        Due.is(x.culprit(), 1);
        Tell.clause(x, 1);
        Due.is(x.sat(1), 0);
    }

    @Says(promise = Sentences.TERMS, words = "with which each CLAUSE has a LITERAL that is true")
    static void modelsOfAClauseOfSix() {
        PlanClauses x = Tell.withVariables(6);
        for (int v = 1; v <= 4; v++) {
            Tell.clause(x, v);
        }
        Tell.clause(x, -1, -2, -3, -4, -5, -6);
        Due.is(x.models(), 3);
        Tell.clause(x, 5);
        Due.is(x.models(), 1);
        Due.is(x.value(6), 0);
        Tell.clause(x, 6);
        Due.is(x.models(), 0);
        Due.is(x.culprit(), 6);
    }

    /** Each row but one makes the clause true, whichever it is. */
    @Says(promise = Sentences.TERMS, words = "with which each CLAUSE has a LITERAL that is true")
    static void modelsOfAClauseOfSixAlone() {
        for (int row = 0; row < 64; row++) {
            PlanClauses x = Tell.withVariables(6);
            Tell.notRow(x, row, 6);
            int first = row == 0 ? 1 : 0;
            int second = row <= 1 ? 2 : 1;
            for (int v = 1; v <= 6; v++) {
                Due.is(x.value(v), first >> (6 - v) & 1);
                Due.is(x.model(1, v), second >> (6 - v) & 1);
            }
            Due.is(x.models(), 60);
            Due.is(x.sat(0), 1);
        }
    }

    @Says(promise = Sentences.TERMS, words = "that is true (v: its truth is 1; -v: 0).")
    static void modelsOfEachRow() {
        for (int row = 0; row < 16; row++) {
            PlanClauses x = Tell.withVariables(4);
            for (int v = 1; v <= 4; v++) {
                Tell.clause(x, (row >> (4 - v) & 1) == 1 ? v : -v);
            }
            Due.is(x.models(), 1);
            for (int v = 1; v <= 4; v++) {
                Due.is(x.value(v), row >> (4 - v) & 1);
            }
            Tell.notRow(x, row, 4);
            Due.is(x.models(), 0);
        }
    }

    @Says(promise = Sentences.TERMS, words = "MODELS are in order as rows: that with 0 at the first VARIABLE at"
        + " which they differ is less.")
    static void modelsThatDifferFirstAtTheFirstOrTheLastVariable() {
        PlanClauses x = Tell.withVariables(30);
        for (int v = 2; v <= 29; v++) {
            Tell.clause(x, v);
        }
        int[][] due = {{0, 0}, {0, 1}, {1, 0}, {1, 1}};
        for (int i = 0; i < 4; i++) {
            Due.is(x.model(i, 1), due[i][0]);
            Due.is(x.model(i, 30), due[i][1]);
            Due.is(x.model(i, 15), 1);
        }
        Due.is(x.model(4, 1), NONE);
        Tell.clause(x, 1, 30);
        Tell.clause(x, -1, -30);
        Due.is(x.models(), 2);
        Due.is(x.value(1), 0);
        Due.is(x.value(30), 1);
        Due.is(x.model(1, 1), 1);
        Due.is(x.model(1, 30), 0);
    }

    @Says(promise = Sentences.TERMS, words = "MODELS are in order as rows: that with 0 at the first VARIABLE at"
        + " which they differ is less.")
    static void modelsOfFiveVariablesInOrder() {
        PlanClauses x = Tell.withVariables(5);
        for (int i = 0; i < 32; i++) {
            for (int v = 1; v <= 5; v++) {
                Due.is(x.model(i, v), i >> (5 - v) & 1);
            }
        }
    }

    /** The variable that most clauses have is neither the first nor the last. */
    @Says(promise = Sentences.TERMS, words = "that with 0 at the first VARIABLE at which they differ is less.")
    static void modelsInOrderWhicheverVariableWeighsMost() {
        int[][] due = {{0, 1, 0, 0}, {0, 1, 0, 1}, {0, 1, 1, 0}, {0, 1, 1, 1}, {1, 0, 1, 1}, {1, 1, 0, 0}};
        PlanClauses x = Tell.withVariables(4);
        Tell.clause(x, 1, 2);
        Tell.clause(x, 2, 3);
        Tell.clause(x, 2, 4);
        for (int i = 0; i < due.length; i++) {
            for (int v = 1; v <= 4; v++) {
                Due.is(x.model(i, v), due[i][v - 1]);
            }
        }
        Due.is(x.models(), 9);
        PlanClauses y = Tell.withVariables(4);
        Tell.clause(y, 1, -2);
        Tell.clause(y, -1, -3);
        Tell.clause(y, 3, -2);
        Tell.clause(y, 4, 2);
        int[][] others = {{0, 0, 0, 1}, {0, 0, 1, 1}, {1, 0, 0, 1}};
        for (int i = 0; i < others.length; i++) {
            for (int v = 1; v <= 4; v++) {
                Due.is(y.model(i, v), others[i][v - 1]);
            }
        }
        Due.is(y.models(), 3);
    }

    // ---- facts, actions, states

    @Says(promise = Sentences.TERMS, words = "A TASK has FACTS 0 .. 5 (as many as are told)")
    static void factsFromNoneToSix() {
        for (int n = 0; n <= 6; n++) {
            PlanClauses x = Tell.withFacts(n);
            for (int f = 0; f < 7; f++) {
                Due.is(x.action(1 << f, 0, 0), f >= n ? BAD : f < 5 ? f : FULL);
            }
            Due.is(x.code(0, 1), n);
            Due.is(x.coded(0, n, 0), BAD);
        }
    }

    @Says(promise = Sentences.TERMS, words = "and ACTIONS (5 at most),")
    static void actionsFiveAtMost() {
        PlanClauses x = Tell.withFacts(6);
        for (int a = 0; a < 5; a++) {
            Due.is(x.plans(1), a + 1);
            Due.is(x.action(0, 0, 0), a);
        }
        Due.is(x.action(0, 0, 0), FULL);
        Due.is(x.plans(1), 6);
    }

    @Says(promise = Sentences.TERMS, words = "each of which ASKS FOR some FACTS, ADDS some, TAKES some")
    static void actionsOfEachSetOfFacts() {
        for (int bits = 0; bits < 64; bits++) {
            PlanClauses x = Tell.withFacts(6);
            x.action(bits, 0, bits);
            x.action(0, bits, 0);
            x.set(1, bits);
            Due.is(x.state(1, 1), bits);
            Due.is(x.step(1, 0), bits == 0 ? 0 : 1);
            x.set(1, 0);
            x.set(0, 63);
            Due.is(x.step(1, 0), 0);
            Due.is(x.state(1, 1), 63 - bits);
        }
    }

    @Says(promise = Sentences.TERMS, words = "(it TAKES none that it ADDS: such a FACT, told as both, is added"
        + " alone).")
    static void actionsThatAddWhatTheyTake() {
        for (int n = 1; n <= 6; n++) {
            int all = (1 << n) - 1;
            PlanClauses x = Tell.withFacts(n);
            x.action(0, all, all);
            Due.is(x.state(1, 1), all);
            x.set(0, all);
            Due.is(x.state(1, 1), all);
            Due.is(x.code(1, 1), n + n + 2 * n);
            Due.is(x.code(1, 2), n + 2 * n + 5 * n);
            for (int f = 0; f < n; f++) {
                Due.is(x.coded(1, n + f, 0), -1 - 2 * n);
                Due.is(x.coded(1, n + f, 1), 1 + n + f);
            }
        }
    }

    @Says(promise = Sentences.TERMS, words = "(it TAKES none that it ADDS: such a FACT, told as both, is added"
        + " alone).")
    static void actionsThatAddSomeOfWhatTheyTake() {
        PlanClauses x = Tell.withFacts(3);
        x.action(0, 3, 6);
        x.set(0, 7);
        Due.is(x.state(1, 1), 3);
        x.set(0, 4);
        Due.is(x.state(1, 1), 3);
        Due.is(x.coded(1, 3, 1), 4);
        Due.is(x.coded(1, 4, 1), 5);
        Due.is(x.coded(1, 5, 1), -6);
        Due.is(x.code(1, 1), 12);
    }

    @Says(promise = Sentences.TERMS, words = "A STATE is which FACTS hold, as bits (FACT 0 the lowest);")
    static void statesAsBits() {
        PlanClauses x = Tell.withFacts(6);
        for (int f = 0; f < 6; f++) {
            x.set(0, 1 << f);
            Due.is(x.state(0, 0), 1 << f);
            for (int other = 0; other < 6; other++) {
                Due.is(x.coded(0, other, 0), other == f ? 1 + other : -1 - other);
            }
        }
    }

    @Says(promise = Sentences.TERMS, words = "THE BEGINNING is one;")
    static void beginningOfEachState() {
        PlanClauses x = Tell.withFacts(6);
        for (int bits = 0; bits < 64; bits++) {
            x.set(0, bits);
            Due.is(x.state(0, 0), bits);
            Due.is(x.state(5, 5), bits);
        }
    }

    @Says(promise = Sentences.TERMS, words = "THE GOAL is a set of FACTS that have to hold.")
    static void goalOfNoneSomeAndAll() {
        for (int goal = 0; goal < 8; goal++) {
            PlanClauses x = Tell.withFacts(3);
            x.set(1, goal);
            for (int state = 0; state < 8; state++) {
                x.set(0, state);
                Due.is(x.plan(0), (state & goal) == goal ? 1 : 0);
                Due.is(x.shortest(), (state & goal) == goal ? 0 : NONE);
            }
        }
    }

    // ---- plans

    @Says(promise = Sentences.TERMS, words = "A PLAN of t (0 .. 5) STEPS is a row of t ACTIONS or NOTHING:")
    static void plansOfNoneToFiveSteps() {
        PlanClauses x = Tell.withFacts(1);
        x.action(0, 1, 1);
        for (int t = 0; t <= 5; t++) {
            Due.is(x.plans(t), 1 << t);
            for (int i = 0; i < t; i++) {
                Due.is(x.step(t, i), 0);
            }
            Due.is(x.step(t, t), BAD);
        }
        Due.is(x.plans(6), BAD);
        Due.is(x.plans(-1), BAD);
    }

    @Says(promise = Sentences.TERMS, words = "each ACTION's FACTS hold in the STATE in which it is done;")
    static void plansAskForAllFacts() {
        for (int state = 0; state < 64; state++) {
            PlanClauses x = Tell.withFacts(6);
            x.action(63, 0, 0);
            x.action(33, 0, 0);
            x.action(0, 0, 0);
            x.set(0, state);
            Due.is(x.step(1, 0), state == 63 ? 0 : (state & 33) == 33 ? 1 : 2);
            Due.is(x.plans(1), state == 63 ? 4 : (state & 33) == 33 ? 3 : 2);
        }
    }

    /** What it takes or adds itself is not yet taken or added. */
    @Says(promise = Sentences.TERMS, words = "each ACTION's FACTS hold in the STATE in which it is done;")
    static void plansAskAheadOfTheAction() {
        PlanClauses x = Tell.withFacts(2);
        x.action(1, 3, 0);
        x.action(2, 0, 2);
        Due.is(x.plans(1), 1);
        x.set(0, 2);
        Due.is(x.plans(1), 2);
        Due.is(x.plans(2), 3);
        Due.is(x.state(2, 1), 0);
    }

    @Says(promise = Sentences.TERMS, words = "the STATE behind it has what it ADDS, has not what it TAKES, else"
        + " is as it was;")
    static void plansChangeEachState() {
        for (int state = 0; state < 64; state++) {
            PlanClauses x = Tell.withFacts(6);
            x.action(0, 35, 28);
            x.set(0, state);
            Due.is(x.state(1, 0), state);
            Due.is(x.state(1, 1), 35);
            PlanClauses y = Tell.withFacts(6);
            y.action(0, 33, 12);
            y.set(0, state);
            Due.is(y.state(5, 1), state & 18 | 33);
            Due.is(y.state(5, 5), state & 18 | 33);
        }
    }

    @Says(promise = Sentences.TERMS, words = "NOTHING leaves it;")
    static void plansOfNothing() {
        PlanClauses x = Tell.withFacts(6);
        x.set(0, 42);
        x.set(1, 42);
        for (int t = 1; t <= 5; t++) {
            Due.is(x.plans(t), 1);
            Due.is(x.step(t, t - 1), NOTHING);
            Due.is(x.state(t, t), 42);
        }
    }

    @Says(promise = Sentences.TERMS, words = "THE GOAL holds at the end.")
    static void plansThatReachTheGoalTooEarly() {
        PlanClauses x = Tell.withFacts(1);
        x.action(1, 0, 1);
        x.set(0, 1);
        x.set(1, 1);
        for (int t = 0; t <= 5; t++) {
            Due.is(x.plans(t), 1);
            Due.is(x.state(t, t), 1);
        }
        Due.is(x.step(5, 0), NOTHING);
        Due.is(x.step(5, 4), NOTHING);
    }

    @Says(promise = Sentences.TERMS, words = "PLANS of t are in order as rows, the first STEP first;")
    static void plansInOrderOfTheFirstStep() {
        PlanClauses x = Tell.withFacts(2);
        x.action(0, 1, 0);
        x.action(0, 2, 0);
        x.set(1, 3);
        int[] due = {0, 0, 0, 0, 1};
        for (int i = 0; i < 5; i++) {
            Due.is(x.step(5, i), due[i]);
        }
        Due.is(x.step(2, 0), 0);
        Due.is(x.step(2, 1), 1);
    }

    @Says(promise = Sentences.TERMS, words = "an ACTION is less than one with a greater number,")
    static void plansInOrderOfTheNumbers() {
        PlanClauses x = Tell.withFacts(1);
        x.action(1, 1, 0);
        for (int a = 1; a < 5; a++) {
            x.action(0, 1, 0);
        }
        x.set(1, 1);
        Due.is(x.step(1, 0), 1);
        Due.is(x.step(2, 0), 1);
        Due.is(x.step(2, 1), 0);
    }

    @Says(promise = Sentences.TERMS, words = "all are less than NOTHING.")
    static void plansWithNothingLast() {
        PlanClauses x = Tell.withFacts(1);
        x.action(1, 0, 0);
        x.action(1, 0, 0);
        x.action(1, 0, 0);
        x.action(1, 0, 0);
        x.action(0, 0, 1);
        Due.is(x.step(1, 0), 4);
        Due.is(x.step(5, 0), 4);
        Due.is(x.step(5, 4), 4);
        x.set(0, 1);
        x.set(1, 1);
        Due.is(x.step(5, 4), 0);
        PlanClauses y = Tell.withFacts(1);
        y.action(0, 0, 1);
        y.set(0, 1);
        y.set(1, 1);
        Due.is(y.step(1, 0), NOTHING);
    }

    // ---- the code

    @Says(promise = Sentences.TERMS, words = "THE CODE of t STEPS, in CLAUSES of its own:")
    static void codeBesideFourHundredClauses() {
        PlanClauses x = new PlanClauses();
        Tell.clausesOfNone(x, 400);
        x.facts(1);
        x.action(0, 1, 0);
        Due.is(x.code(5, 1), 1 + 5 * 3);
        Due.is(x.code(5, 0), 11);
        Due.is(x.coded(5, 15, 1), 6);
        Due.is(x.count(0), 0);
        Due.is(x.count(1), 400);
        Due.is(x.plans(1), 2);
        Due.is(x.at(0, 0), NONE);
    }

    @Says(promise = Sentences.TERMS, words = "VARIABLES: FACT f at time i: 1 + i F + f (F FACTS, i 0 .. t);")
    static void codeNumbersTheFacts() {
        for (int n = 1; n <= 6; n++) {
            PlanClauses x = Tell.withFacts(n);
            x.set(0, (1 << n) - 1);
            x.set(1, (1 << n) - 1);
            for (int t = 0; t <= 5; t++) {
                Due.is(x.coded(t, 0, 0), 1);
                Due.is(x.coded(t, n - 1, 0), n);
                Due.is(x.coded(t, n, 0), 1 + t * n);
                Due.is(x.coded(t, 2 * n - 1, 0), t * n + n);
                Due.is(x.code(t, 0), t * n + n);
            }
        }
    }

    @Says(promise = Sentences.TERMS, words = "ACTION a at STEP i (0 .. t - 1): 1 + (t + 1) F + i A + a"
        + " (A ACTIONS).")
    static void codeNumbersTheActions() {
        for (int actions = 2; actions <= 5; actions++) {
            PlanClauses x = Tell.withFacts(6);
            Tell.idleActions(x, actions);
            int pairs = actions * (actions - 1) / 2;
            for (int t = 1; t <= 5; t++) {
                int first = 1 + (t + 1) * 6;
                int last = first + t * actions - 1;
                Due.is(x.coded(t, 6 + 12, 0), -first);
                Due.is(x.coded(t, 6 + 12, 1), -first - 1);
                Due.is(x.coded(t, 6 + t * (12 + pairs) - 1, 0), 1 - last);
                Due.is(x.coded(t, 6 + t * (12 + pairs) - 1, 1), -last);
                Due.is(x.code(t, 0), last);
            }
        }
    }

    @Says(promise = Sentences.TERMS, words = "CLAUSES, in this order, LITERALS in the order told, FACTS, ACTIONS"
        + " by numbers:")
    static void codeOfTwoSteps() {
        codeIs(twoActions(2, 1), 2, new int[][] {
            {-1}, {2}, {5},
            {-7, 1}, {-7, 2}, {-8, 1},
            {-7, -3}, {-7, 4}, {-8, 3}, {-8, -4},
            {1, -3, 8}, {-1, 3, 7}, {2, -4, 7}, {-2, 4, 8},
            {-7, -8},
            {-9, 3}, {-9, 4}, {-10, 3},
            {-9, -5}, {-9, 6}, {-10, 5}, {-10, -6},
            {3, -5, 10}, {-3, 5, 9}, {4, -6, 9}, {-4, 6, 10},
            {-9, -10},
        });
    }

    @Says(promise = Sentences.TERMS, words = "(1) for each FACT at time 0 that, or not that, as THE BEGINNING"
        + " has it;")
    static void codeOfEachBeginning() {
        for (int beginning = 0; beginning < 4; beginning++) {
            codeIs(twoActions(beginning, 0), 0, new int[][] {
                {(beginning & 1) == 1 ? 1 : -1}, {beginning >= 2 ? 2 : -2},
            });
        }
        codeIs(new PlanClauses(), 0, new int[][] {});
    }

    @Says(promise = Sentences.TERMS, words = "(2) for each FACT of THE GOAL that at time t;")
    static void codeOfEachGoal() {
        codeIs(twoActions(0, 0), 0, new int[][] {{-1}, {-2}});
        codeIs(twoActions(0, 1), 0, new int[][] {{-1}, {-2}, {1}});
        codeIs(twoActions(0, 2), 0, new int[][] {{-1}, {-2}, {2}});
        codeIs(twoActions(0, 3), 0, new int[][] {{-1}, {-2}, {1}, {2}});
        PlanClauses x = Tell.withFacts(1);
        x.set(1, 1);
        codeIs(x, 1, new int[][] {{-1}, {2}, {1, -2}, {-1, 2}});
    }

    @Says(promise = Sentences.TERMS, words = "then, STEP i by STEP: (3) for each ACTION, each FACT that it ASKS"
        + " FOR: not the ACTION, or the FACT at time i;")
    static void codeOfWhatIsAskedFor() {
        PlanClauses x = Tell.withFacts(3);
        x.action(7, 0, 0);
        x.action(0, 0, 0);
        x.action(5, 0, 0);
        int[][] due = {{-7, 1}, {-7, 2}, {-7, 3}, {-9, 1}, {-9, 3}, {1, -4}};
        for (int i = 0; i < due.length; i++) {
            Due.is(x.coded(1, 3 + i, 0), due[i][0]);
            Due.is(x.coded(1, 3 + i, 1), due[i][1]);
            Due.is(x.coded(1, 3 + i, 2), NONE);
        }
    }

    @Says(promise = Sentences.TERMS, words = "(4) for each ACTION, each FACT: that it ADDS: not the ACTION, or"
        + " the FACT at time i + 1; that it TAKES: not the ACTION, or not the FACT at i + 1;")
    static void codeOfWhatIsAddedAndTaken() {
        PlanClauses x = Tell.withFacts(3);
        x.action(0, 4, 1);
        x.action(0, 0, 0);
        x.action(0, 2, 7);
        int[][] due = {{-7, -4}, {-7, 6}, {-9, -4}, {-9, 5}, {-9, -6}, {1, -4}};
        for (int i = 0; i < due.length; i++) {
            Due.is(x.coded(1, 3 + i, 0), due[i][0]);
            Due.is(x.coded(1, 3 + i, 1), due[i][1]);
            Due.is(x.coded(1, 3 + i, 2), NONE);
        }
    }

    @Says(promise = Sentences.TERMS, words = "(5) for each FACT: it at time i, not it at i + 1, or one of the"
        + " ACTIONS that ADD it; then: not it at i, it at i + 1, or one of the ACTIONS that TAKE it;")
    static void codeOfWhatIsKept() {
        codeIs(Tell.withFacts(2), 1, new int[][] {{-1}, {-2}, {1, -3}, {-1, 3}, {2, -4}, {-2, 4}});
        PlanClauses x = Tell.withFacts(1);
        for (int a = 0; a < 5; a++) {
            x.action(0, a % 2, 1);
        }
        int[][] due = {{1, -2, 4, 6, NONE}, {-1, 2, 3, 5, 7}};
        for (int i = 0; i < 2; i++) {
            for (int k = 0; k < 5; k++) {
                Due.is(x.coded(1, 6 + i, k), due[i][k]);
            }
            Due.is(x.coded(1, 6 + i, 5), NONE);
        }
    }

    @Says(promise = Sentences.TERMS, words = "(6) for each pair of ACTIONS a < b: not a, or not b.")
    static void codeOfPairs() {
        PlanClauses none = new PlanClauses();
        PlanClauses one = new PlanClauses();
        Tell.idleActions(one, 1);
        codeIs(none, 1, new int[][] {});
        codeIs(one, 1, new int[][] {});
        PlanClauses five = new PlanClauses();
        Tell.idleActions(five, 5);
        codeIs(five, 1, new int[][] {
            {-1, -2}, {-1, -3}, {-1, -4}, {-1, -5}, {-2, -3}, {-2, -4}, {-2, -5}, {-3, -4}, {-3, -5}, {-4, -5},
        });
    }

    private static PlanClauses twoActions(int beginning, int goal) {
        PlanClauses x = Tell.withFacts(2);
        x.action(3, 2, 1);
        x.action(1, 1, 2);
        x.set(0, beginning);
        x.set(1, goal);
        return x;
    }

    private static void codeIs(PlanClauses x, int t, int[][] due) {
        int literals = 0;
        for (int i = 0; i < due.length; i++) {
            for (int k = 0; k < due[i].length; k++) {
                Due.is(x.coded(t, i, k), due[i][k]);
            }
            Due.is(x.coded(t, i, due[i].length), NONE);
            literals += due[i].length;
        }
        Due.is(x.coded(t, due.length, 0), BAD);
        Due.is(x.code(t, 1), due.length);
        Due.is(x.code(t, 2), literals);
    }

    @Says(promise = Sentences.TERMS, words = "(MODELS of THE CODE are the PLANS of t, each once.)")
    static void codeHasThePlansAsModels() {
        int[][] walking = {{1, 2, 1}, {2, 1, 2}};
        int[][] free = {{0, 1, 0}, {0, 2, 3}};
        for (int t = 0; t <= 3; t++) {
            modelsArePlans(2, walking, 1, 2, t);
            modelsArePlans(2, free, 0, 2, t);
            modelsArePlans(2, free, 3, 0, t);
            modelsArePlans(0, new int[][] {{0, 0, 0}, {0, 0, 0}}, 0, 0, t);
        }
        for (int t = 0; t <= 5; t++) {
            modelsArePlans(1, new int[][] {{0, 1, 0}}, 0, 1, t);
            modelsArePlans(1, new int[][] {{1, 0, 1}}, 0, 1, t);
            modelsArePlans(2, new int[][] {}, 2, 2, t);
            modelsArePlans(0, new int[][] {}, 0, 0, t);
        }
    }

    /** Tells another object the code as its clauses, and reads its models as plans. */
    private static void modelsArePlans(int facts, int[][] actions, int beginning, int goal, int t) {
        PlanClauses x = Tell.withFacts(facts);
        Plain plain = new Plain();
        plain.facts(facts);
        for (int[] action : actions) {
            x.action(action[0], action[1], action[2]);
            plain.action(action[0], action[1], action[2]);
        }
        x.set(0, beginning);
        x.set(1, goal);
        plain.set(0, beginning);
        plain.set(1, goal);
        Set<List<Integer>> due = new HashSet<>();
        for (int[] plan : plain.allPlans(t)) {
            due.add(Arrays.stream(plan).boxed().toList());
        }
        PlanClauses y = Tell.withVariables(x.code(t, 0));
        tellCode(x, t, plain.allCode(t), y);
        Due.is(x.plans(t), due.size());
        Due.is(y.models(), due.size());
        Set<List<Integer>> read = new HashSet<>();
        for (int i = 0; i < due.size(); i++) {
            read.add(readPlan(y, i, t, (t + 1) * facts, actions.length));
        }
        Due.holds("the models are the plans", read.equals(due));
    }

    /** A literal may be the number of NONE, so the lengths are not read from the answers. */
    private static void tellCode(PlanClauses x, int t, List<int[]> due, PlanClauses y) {
        for (int i = 0; i < due.size(); i++) {
            for (int k = 0; k < due.get(i).length; k++) {
                Tell.draft(y, x.coded(t, i, k));
            }
            y.clause();
        }
        Due.is(x.code(t, 1), due.size());
    }

    private static List<Integer> readPlan(PlanClauses y, int model, int t, int ahead, int actions) {
        Integer[] plan = new Integer[t];
        for (int i = 0; i < t; i++) {
            plan[i] = NOTHING;
            for (int a = 0; a < actions; a++) {
                if (y.model(model, 1 + ahead + i * actions + a) == 1) {
                    Due.is(plan[i], NOTHING);
                    plan[i] = a;
                }
            }
        }
        return Arrays.asList(plan);
    }
}
