import java.util.List;

/** Promises 13 to 23: a test of its own for each boundary case of each sentence. */
final class TasksBoundsTest {
    private static final int BAD = PlanClauses.BAD, FULL = PlanClauses.FULL;
    private static final int NONE = PlanClauses.NONE, NOTHING = PlanClauses.NOTHING;
    private static final int LEAST = Integer.MIN_VALUE, MOST = Integer.MAX_VALUE;

    private TasksBoundsTest() {
    }

    // ---- Promise 13: facts

    @Says(promise = 13, words = "There are n FACTS (0 .. 6)")
    static void factsNone() {
        PlanClauses x = Tell.withFacts(6);
        Due.is(x.facts(0), 6);
        Due.is(x.count(3), 0);
        Due.is(x.action(1, 0, 0), BAD);
        Due.is(x.set(0, 1), BAD);
        Due.is(x.set(1, 1), BAD);
        Due.is(x.code(5, 0), 0);
        Due.is(x.code(5, 1), 0);
        Due.is(x.plan(5), 1);
    }

    @Says(promise = 13, words = "There are n FACTS (0 .. 6)")
    static void factsOne() {
        PlanClauses x = new PlanClauses();
        Due.is(x.facts(1), 0);
        Due.is(x.count(3), 1);
        Due.is(x.set(0, 1), 0);
        Due.is(x.set(0, 2), BAD);
        Due.is(x.code(0, 0), 1);
        Due.is(x.code(0, 1), 1);
    }

    @Says(promise = 13, words = "There are n FACTS (0 .. 6)")
    static void factsSix() {
        PlanClauses x = new PlanClauses();
        Due.is(x.facts(6), 0);
        Due.is(x.count(3), 6);
        Due.is(x.set(0, 63), 0);
        Due.is(x.set(0, 64), BAD);
        Due.is(x.action(32, 32, 32), 0);
        Due.is(x.code(0, 0), 6);
        Due.is(x.coded(0, 5, 0), 6);
        Due.is(x.coded(0, 6, 0), BAD);
    }

    @Says(promise = 13, words = "There are n FACTS (0 .. 6)")
    static void factsFewerThanThereWere() {
        PlanClauses x = Tell.withFacts(6);
        x.set(0, 63);
        Due.is(x.state(0, 0), 63);
        Due.is(x.code(1, 1), 18);
        x.facts(2);
        Due.is(x.set(0, 4), BAD);
        Due.is(x.set(0, 3), 0);
        Due.is(x.action(4, 0, 0), BAD);
        Due.is(x.state(0, 0), 3);
        Due.is(x.code(1, 1), 6);
        Due.is(x.code(1, 0), 4);
    }

    @Says(promise = 13, words = "There are n FACTS (0 .. 6)")
    static void factsMoreThanThereWere() {
        PlanClauses x = Tell.withFacts(2);
        Due.is(x.plans(5), 1);
        Due.is(x.code(1, 1), 6);
        x.facts(3);
        Due.is(x.set(0, 4), 0);
        Due.is(x.state(5, 5), 4);
        Due.is(x.set(1, 8), BAD);
        Due.is(x.set(1, 7), 0);
        Due.is(x.plans(5), 0);
        Due.is(x.code(1, 1), 12);
    }

    @Says(promise = 13, words = "how many there were;")
    static void factsHowManyThereWere() {
        PlanClauses x = new PlanClauses();
        Due.is(x.facts(0), 0);
        Due.is(x.facts(6), 0);
        Due.is(x.facts(6), 6);
        Due.is(x.facts(7), BAD);
        Due.is(x.facts(1), 6);
        Due.is(x.facts(0), 1);
        Due.is(x.facts(0), 0);
    }

    @Says(promise = 13, words = "no ACTIONS,")
    static void factsLeaveNoActions() {
        for (int n = 0; n <= 6; n++) {
            PlanClauses x = Tell.withFacts(6);
            for (int a = 0; a < 5; a++) {
                x.action(0, a % 2 == 0 ? 63 : 0, 63);
            }
            Due.is(x.plans(1), 6);
            x.facts(n);
            Due.is(x.count(4), 0);
            Due.is(x.plans(1), 1);
            Due.is(x.step(1, 0), NOTHING);
            Due.is(x.code(1, 0), 2 * n);
            Due.is(x.code(1, 1), 3 * n);
            Due.is(x.code(1, 2), 5 * n);
            Due.is(x.action(0, 0, 0), 0);
            Due.is(x.state(1, 1), 0);
            Due.is(x.code(1, 2), 5 * n);
        }
    }

    @Says(promise = 13, words = "THE BEGINNING, THE GOAL none of them.")
    static void factsLeaveNoBeginning() {
        for (int n = 0; n <= 6; n++) {
            PlanClauses x = Tell.withFacts(6);
            x.set(0, 63);
            Due.is(x.state(0, 0), 63);
            x.facts(n);
            Due.is(x.count(5), 0);
            Due.is(x.state(0, 0), 0);
            Due.is(x.coded(0, 0, 0), -1);
            Due.is(x.set(0, 0), 0);
        }
    }

    @Says(promise = 13, words = "THE BEGINNING, THE GOAL none of them.")
    static void factsLeaveNoGoal() {
        for (int n = 0; n <= 6; n++) {
            PlanClauses x = Tell.withFacts(6);
            x.set(1, 63);
            Due.is(x.plan(5), 0);
            x.facts(n);
            Due.is(x.count(6), 0);
            Due.is(x.plan(5), 1);
            Due.is(x.shortest(), 0);
            Due.is(x.code(0, 1), n);
            Due.is(x.set(1, 0), 0);
        }
    }

    @Says(promise = 13, words = "There are n FACTS (0 .. 6)")
    static void factsLeaveTheClauses() {
        PlanClauses x = Tell.withVariables(3);
        Tell.clause(x, 3);
        Tell.draft(x, -1, 2);
        x.facts(2);
        Due.is(x.count(0), 3);
        Due.is(x.count(1), 1);
        Due.is(x.count(2), 2);
        Due.is(x.models(), 4);
        Due.is(x.clause(), 2);
        Due.is(x.at(1, 1), 2);
    }

    @Says(promise = 13, words = "BAD.")
    static void factsBelowNone() {
        PlanClauses x = someTask();
        Due.is(x.facts(-1), BAD);
        Due.is(x.facts(-3), BAD);
        isSomeTask(x);
    }

    @Says(promise = 13, words = "BAD.")
    static void factsSeven() {
        PlanClauses x = someTask();
        Due.is(x.facts(7), BAD);
        Due.is(x.facts(8), BAD);
        isSomeTask(x);
    }

    /** 32 and 64 more are the same place of a bit. */
    @Says(promise = 13, words = "BAD.")
    static void factsLeastAndGreatestInt() {
        PlanClauses x = someTask();
        Due.is(x.facts(LEAST), BAD);
        Due.is(x.facts(MOST), BAD);
        Due.is(x.facts(LEAST + 6), BAD);
        Due.is(x.facts(32), BAD);
        Due.is(x.facts(33), BAD);
        Due.is(x.facts(64), BAD);
        isSomeTask(x);
    }

    private static PlanClauses someTask() {
        PlanClauses x = Tell.withFacts(3);
        x.action(1, 2, 1);
        x.action(2, 5, 2);
        x.set(0, 1);
        x.set(1, 5);
        return x;
    }

    private static void isSomeTask(PlanClauses x) {
        Due.is(x.count(3), 3);
        Due.is(x.count(4), 2);
        Due.is(x.count(5), 1);
        Due.is(x.count(6), 5);
        Due.is(x.shortest(), 2);
        Due.is(x.step(2, 0), 0);
        Due.is(x.step(2, 1), 1);
        Due.is(x.state(2, 2), 5);
        Due.is(x.code(1, 1), 3 + 2 + 2 + 5 + 6 + 1);
    }

    // ---- Promise 14: action

    @Says(promise = 14, words = "An ACTION: what it ASKS FOR, ADDS, TAKES, as bits")
    static void actionOfNoFacts() {
        PlanClauses x = new PlanClauses();
        Due.is(x.action(0, 0, 0), 0);
        Due.is(x.step(1, 0), 0);
        Due.is(x.state(1, 1), 0);
        PlanClauses y = Tell.withFacts(6);
        y.set(0, 41);
        Due.is(y.action(0, 0, 0), 0);
        Due.is(y.step(1, 0), 0);
        Due.is(y.state(1, 1), 41);
    }

    @Says(promise = 14, words = "An ACTION: what it ASKS FOR, ADDS, TAKES, as bits")
    static void actionOfAllFacts() {
        for (int n = 0; n <= 6; n++) {
            int all = (1 << n) - 1;
            PlanClauses x = Tell.withFacts(n);
            Due.is(x.action(all, 0, 0), 0);
            Due.is(x.action(0, all, 0), 1);
            Due.is(x.action(0, 0, all), 2);
            Due.is(x.action(all, all, all), 3);
            Due.is(x.action(all, 0, all), 4);
            Due.is(x.count(4), 5);
        }
    }

    @Says(promise = 14, words = "what it ASKS FOR,")
    static void actionAsksForTheFirstOrTheLastFact() {
        for (int fact = 1; fact <= 32; fact *= 32) {
            PlanClauses x = Tell.withFacts(6);
            x.action(fact, 0, 0);
            Due.is(x.step(1, 0), NOTHING);
            x.set(0, 63 - fact);
            Due.is(x.step(1, 0), NOTHING);
            x.set(0, fact);
            Due.is(x.step(1, 0), 0);
        }
    }

    @Says(promise = 14, words = "ADDS,")
    static void actionAddsTheFirstOrTheLastFact() {
        for (int fact = 1; fact <= 32; fact *= 32) {
            PlanClauses x = Tell.withFacts(6);
            x.action(0, fact, 0);
            Due.is(x.state(1, 1), fact);
            x.set(0, 63 - fact);
            Due.is(x.state(1, 1), 63);
            x.set(0, 63);
            Due.is(x.state(1, 1), 63);
        }
    }

    @Says(promise = 14, words = "TAKES,")
    static void actionTakesTheFirstOrTheLastFact() {
        for (int fact = 1; fact <= 32; fact *= 32) {
            PlanClauses x = Tell.withFacts(6);
            x.action(0, 0, fact);
            Due.is(x.state(1, 1), 0);
            x.set(0, 63);
            Due.is(x.state(1, 1), 63 - fact);
            x.set(0, 63 - fact);
            Due.is(x.state(1, 1), 63 - fact);
        }
    }

    @Says(promise = 14, words = "its number.")
    static void actionNumbersUpToFour() {
        PlanClauses x = Tell.withFacts(5);
        for (int a = 0; a < 5; a++) {
            Due.is(x.action(0, 1 << a, 0), a);
            Due.is(x.count(4), a + 1);
        }
        for (int a = 0; a < 5; a++) {
            x.set(1, 1 << a);
            Due.is(x.step(1, 0), a);
        }
    }

    @Says(promise = 14, words = "its number.")
    static void actionNumbersBeginAgainWithNewFacts() {
        PlanClauses x = Tell.withFacts(2);
        Tell.idleActions(x, 5);
        x.facts(2);
        Due.is(x.action(0, 1, 0), 0);
        Due.is(x.action(0, 2, 0), 1);
        Due.is(x.count(4), 2);
    }

    @Says(promise = 14, words = "its number.")
    static void actionNumberAfterARefusedOne() {
        PlanClauses x = Tell.withFacts(2);
        Due.is(x.action(0, 1, 0), 0);
        Due.is(x.action(4, 0, 0), BAD);
        Due.is(x.action(0, 2, 0), 1);
    }

    @Says(promise = 14, words = "BAD: bits of no FACT;")
    static void actionOneBitBeyond() {
        for (int n = 0; n <= 6; n++) {
            PlanClauses x = Tell.withFacts(n);
            int beyond = 1 << n;
            Due.is(x.action(beyond, 0, 0), BAD);
            Due.is(x.action(0, beyond, 0), BAD);
            Due.is(x.action(0, 0, beyond), BAD);
            Due.is(x.action(2 * beyond - 1, 0, 0), BAD);
            Due.is(x.action(0, 2 * beyond - 1, 0), BAD);
            Due.is(x.action(0, 0, 2 * beyond - 1), BAD);
            Due.is(x.count(4), 0);
        }
    }

    @Says(promise = 14, words = "BAD: bits of no FACT;")
    static void actionBelowNone() {
        PlanClauses x = Tell.withFacts(6);
        Due.is(x.action(-1, 0, 0), BAD);
        Due.is(x.action(0, -1, 0), BAD);
        Due.is(x.action(0, 0, -1), BAD);
        Due.is(x.action(-64, 0, 0), BAD);
        Due.is(x.action(0, -64, 0), BAD);
        Due.is(x.action(0, 0, -64), BAD);
        Due.is(x.count(4), 0);
    }

    @Says(promise = 14, words = "BAD: bits of no FACT;")
    static void actionLeastAndGreatestInt() {
        for (int n = 0; n <= 6; n += 6) {
            PlanClauses x = Tell.withFacts(n);
            Due.is(x.action(LEAST, 0, 0), BAD);
            Due.is(x.action(0, LEAST, 0), BAD);
            Due.is(x.action(0, 0, LEAST), BAD);
            Due.is(x.action(MOST, 0, 0), BAD);
            Due.is(x.action(0, MOST, 0), BAD);
            Due.is(x.action(0, 0, MOST), BAD);
            Due.is(x.action(LEAST + 1, 0, 0), BAD);
            Due.is(x.action(1 << 30, 0, 0), BAD);
            Due.is(x.count(4), 0);
        }
    }

    /** What it takes and adds, too, is added alone; no fact stays bad all the same. */
    @Says(promise = 14, words = "BAD: bits of no FACT;")
    static void actionBeyondInBoth() {
        PlanClauses x = Tell.withFacts(2);
        Due.is(x.action(0, 4, 4), BAD);
        Due.is(x.action(0, 3, 7), BAD);
        Due.is(x.action(0, -1, -1), BAD);
        Due.is(x.count(4), 0);
    }

    @Says(promise = 14, words = "FULL.")
    static void actionSixth() {
        PlanClauses x = Tell.withFacts(5);
        for (int a = 0; a < 5; a++) {
            x.action(0, 1 << a, 0);
        }
        Due.is(x.action(0, 31, 0), FULL);
        Due.is(x.action(0, 0, 0), FULL);
        Due.is(x.action(31, 31, 31), FULL);
        Due.is(x.count(4), 5);
        x.set(1, 31);
        Due.is(x.shortest(), 5);
        Due.is(x.step(5, 0), 0);
        Due.is(x.step(5, 4), 4);
        Due.is(x.code(1, 0), 15);
    }

    @Says(promise = 14, words = "FULL.")
    static void actionSixthWithoutFacts() {
        PlanClauses x = new PlanClauses();
        Tell.idleActions(x, 5);
        Due.is(x.action(0, 0, 0), FULL);
        Due.is(x.count(4), 5);
    }

    @Says(promise = 14, words = "BAD: bits of no FACT; FULL.")
    static void actionSixthThatIsBad() {
        PlanClauses x = Tell.withFacts(2);
        Tell.idleActions(x, 5);
        Due.is(x.action(4, 0, 0), BAD);
        Due.is(x.action(0, 4, 0), BAD);
        Due.is(x.action(0, 0, 4), BAD);
        Due.is(x.action(-1, 0, 0), BAD);
        Due.is(x.action(0, LEAST, 0), BAD);
        Due.is(x.action(0, 0, MOST), BAD);
        Due.is(x.action(3, 3, 3), FULL);
        Due.is(x.count(4), 5);
    }

    // ---- Promise 15: set

    @Says(promise = 15, words = "THE BEGINNING (which = 0)")
    static void setTheBeginning() {
        PlanClauses x = Tell.withFacts(6);
        Due.is(x.set(0, 33), 0);
        Due.is(x.count(5), 33);
        Due.is(x.count(6), 0);
        Due.is(x.state(0, 0), 33);
        Due.is(x.coded(0, 0, 0), 1);
        Due.is(x.coded(0, 1, 0), -2);
        Due.is(x.coded(0, 5, 0), 6);
    }

    @Says(promise = 15, words = "THE GOAL (1)")
    static void setTheGoal() {
        PlanClauses x = Tell.withFacts(6);
        Due.is(x.plan(0), 1);
        Due.is(x.set(1, 33), 0);
        Due.is(x.count(6), 33);
        Due.is(x.count(5), 0);
        Due.is(x.plan(0), 0);
        Due.is(x.coded(0, 6, 0), 1);
        Due.is(x.coded(0, 7, 0), 6);
        Due.is(x.coded(0, 8, 0), BAD);
    }

    @Says(promise = 15, words = "as bits")
    static void setNoneAndAll() {
        for (int n = 0; n <= 6; n++) {
            int all = (1 << n) - 1;
            PlanClauses x = Tell.withFacts(n);
            Due.is(x.set(0, 0), 0);
            Due.is(x.set(1, 0), 0);
            Due.is(x.plan(0), 1);
            Due.is(x.set(0, all), 0);
            Due.is(x.set(1, all), 0);
            Due.is(x.plan(0), 1);
            Due.is(x.count(5), all);
            Due.is(x.count(6), all);
            Due.is(x.code(0, 1), 2 * n);
            Due.is(x.set(0, 0), all);
            Due.is(x.plan(0), n == 0 ? 1 : 0);
            Due.is(x.set(1, 0), all);
            Due.is(x.plan(0), 1);
        }
    }

    @Says(promise = 15, words = "as bits")
    static void setEachState() {
        PlanClauses x = Tell.withFacts(6);
        int before = 0;
        for (int bits = 63; bits >= 0; bits--) {
            Due.is(x.set(0, bits), before);
            Due.is(x.count(5), bits);
            Due.is(x.set(1, 63 - bits), bits == 63 ? 0 : 62 - bits);
            Due.is(x.count(6), 63 - bits);
            before = bits;
        }
    }

    @Says(promise = 15, words = "what it was.")
    static void setWhatItWas() {
        PlanClauses x = Tell.withFacts(6);
        Due.is(x.set(0, 63), 0);
        Due.is(x.set(0, 63), 63);
        Due.is(x.set(1, 1), 0);
        Due.is(x.set(0, 64), BAD);
        Due.is(x.set(1, 64), BAD);
        Due.is(x.set(0, 0), 63);
        Due.is(x.set(1, 0), 1);
        Due.is(x.set(0, 5), 0);
        Due.is(x.set(1, 6), 0);
    }

    @Says(promise = 15, words = "BAD.")
    static void setNeither() {
        PlanClauses x = someTask();
        Due.is(x.set(-1, 0), BAD);
        Due.is(x.set(2, 0), BAD);
        Due.is(x.set(3, 7), BAD);
        Due.is(x.set(LEAST, 0), BAD);
        Due.is(x.set(MOST, 0), BAD);
        Due.is(x.set(LEAST + 1, 7), BAD);
        isSomeTask(x);
    }

    @Says(promise = 15, words = "BAD.")
    static void setOneBitBeyond() {
        for (int n = 0; n <= 6; n++) {
            PlanClauses x = Tell.withFacts(n);
            Due.is(x.set(0, 1 << n), BAD);
            Due.is(x.set(1, 1 << n), BAD);
            Due.is(x.set(0, (2 << n) - 1), BAD);
            Due.is(x.set(1, (2 << n) - 1), BAD);
            Due.is(x.count(5), 0);
            Due.is(x.count(6), 0);
        }
    }

    @Says(promise = 15, words = "BAD.")
    static void setBelowNone() {
        PlanClauses x = someTask();
        Due.is(x.set(0, -1), BAD);
        Due.is(x.set(1, -1), BAD);
        Due.is(x.set(0, -8), BAD);
        Due.is(x.set(1, -8), BAD);
        isSomeTask(x);
    }

    @Says(promise = 15, words = "BAD.")
    static void setLeastAndGreatestInt() {
        PlanClauses x = someTask();
        Due.is(x.set(0, LEAST), BAD);
        Due.is(x.set(1, LEAST), BAD);
        Due.is(x.set(0, MOST), BAD);
        Due.is(x.set(1, MOST), BAD);
        Due.is(x.set(0, LEAST + 1), BAD);
        isSomeTask(x);
    }

    // ---- Promise 16: plan

    @Says(promise = 16, words = "Whether there is a PLAN of t STEPS")
    static void planOfNoSteps() {
        PlanClauses x = Tell.withFacts(6);
        x.action(0, 32, 0);
        Due.is(x.plan(0), 1);
        x.set(1, 32);
        Due.is(x.plan(0), 0);
        x.set(0, 31);
        Due.is(x.plan(0), 0);
        x.set(0, 63);
        Due.is(x.plan(0), 1);
    }

    @Says(promise = 16, words = "Whether there is a PLAN of t STEPS")
    static void planOfFiveSteps() {
        PlanClauses x = chain(5);
        Due.is(x.plan(4), 0);
        Due.is(x.plan(5), 1);
    }

    @Says(promise = 16, words = "Whether there is a PLAN of t STEPS")
    static void planOfMoreStepsThanItTakes() {
        for (int length = 0; length <= 5; length++) {
            PlanClauses x = chain(length);
            for (int t = 0; t <= 5; t++) {
                Due.is(x.plan(t), t >= length ? 1 : 0);
            }
        }
    }

    @Says(promise = 16, words = ": 1, 0.")
    static void planIsOneHoweverManyThereAre() {
        PlanClauses x = Tell.withFacts(1);
        Tell.idleActions(x, 5);
        for (int t = 0; t <= 5; t++) {
            Due.is(x.plan(t), 1);
        }
        x.set(1, 1);
        for (int t = 0; t <= 5; t++) {
            Due.is(x.plan(t), 0);
        }
    }

    @Says(promise = 16, words = ": 1, 0.")
    static void planWithoutFactsOrActions() {
        PlanClauses x = new PlanClauses();
        Due.is(x.plan(0), 1);
        Due.is(x.plan(5), 1);
        PlanClauses y = Tell.withFacts(6);
        Due.is(y.plan(5), 1);
        y.set(1, 32);
        Due.is(y.plan(0), 0);
        Due.is(y.plan(5), 0);
    }

    @Says(promise = 16, words = "BAD.")
    static void planBelowAndBeyond() {
        PlanClauses x = chain(1);
        Due.is(x.plan(-1), BAD);
        Due.is(x.plan(6), BAD);
        Due.is(x.plan(7), BAD);
        Due.is(x.plan(LEAST), BAD);
        Due.is(x.plan(MOST), BAD);
        Due.is(x.plan(1), 1);
    }

    @Says(promise = 16, words = "BAD.")
    static void planBadWhereThereIsNone() {
        PlanClauses x = withoutPlan();
        Due.is(x.plan(-1), BAD);
        Due.is(x.plan(6), BAD);
        Due.is(x.plan(5), 0);
    }

    /** The goal is reached by the actions 0, 1, .. in so many steps, and not in fewer. */
    private static PlanClauses chain(int length) {
        PlanClauses x = Tell.withFacts(6);
        for (int a = 0; a < 5; a++) {
            x.action(1 << a, 2 << a, 1 << a);
        }
        x.set(0, 1);
        x.set(1, 1 << length);
        return x;
    }

    private static PlanClauses withoutPlan() {
        PlanClauses x = Tell.withFacts(2);
        x.action(2, 2, 0);
        x.action(0, 1, 0);
        x.set(1, 2);
        return x;
    }

    // ---- Promise 17: step

    @Says(promise = 17, words = "What the first PLAN of t does at STEP i")
    static void stepFirstAndLast() {
        PlanClauses x = chain(5);
        for (int i = 0; i < 5; i++) {
            Due.is(x.step(5, i), i);
        }
        PlanClauses y = chain(1);
        Due.is(y.step(1, 0), 0);
        Due.is(y.step(5, 0), 0);
    }

    @Says(promise = 17, words = "What the first PLAN of t does at STEP i")
    static void stepOfTheFirstOfManyPlans() {
        PlanClauses x = Tell.withFacts(2);
        x.action(1, 2, 0);
        x.action(0, 1, 0);
        x.action(0, 3, 0);
        x.set(1, 3);
        Due.is(x.step(1, 0), 2);
        Due.is(x.step(2, 0), 1);
        Due.is(x.step(2, 1), 0);
        Due.is(x.step(3, 0), 1);
        Due.is(x.step(3, 1), 0);
        Due.is(x.step(3, 2), 0);
    }

    @Says(promise = 17, words = "(an ACTION,")
    static void stepGreatestAction() {
        PlanClauses x = Tell.withFacts(1);
        Tell.idleActions(x, 4);
        x.action(0, 1, 0);
        x.set(1, 1);
        Due.is(x.step(1, 0), 4);
        for (int i = 0; i < 4; i++) {
            Due.is(x.step(5, i), 0);
        }
        Due.is(x.step(5, 4), 4);
    }

    @Says(promise = 17, words = "NOTHING);")
    static void stepOfNothing() {
        PlanClauses x = new PlanClauses();
        for (int t = 1; t <= 5; t++) {
            Due.is(x.step(t, 0), NOTHING);
            Due.is(x.step(t, t - 1), NOTHING);
        }
        PlanClauses y = chain(2);
        int[] due = {0, 1, NOTHING, NOTHING, NOTHING};
        for (int i = 0; i < 5; i++) {
            Due.is(y.step(5, i), due[i]);
        }
    }

    @Says(promise = 17, words = "NONE: there is none.")
    static void stepWithoutAPlan() {
        PlanClauses x = withoutPlan();
        for (int t = 1; t <= 5; t++) {
            Due.is(x.step(t, 0), NONE);
            Due.is(x.step(t, t - 1), NONE);
        }
        PlanClauses y = chain(5);
        Due.is(y.step(4, 0), NONE);
        Due.is(y.step(4, 3), NONE);
        Due.is(y.step(5, 0), 0);
    }

    @Says(promise = 17, words = "BAD: t,")
    static void stepOfNoLength() {
        PlanClauses x = chain(1);
        Due.is(x.step(-1, 0), BAD);
        Due.is(x.step(6, 0), BAD);
        Due.is(x.step(6, 5), BAD);
        Due.is(x.step(LEAST, 0), BAD);
        Due.is(x.step(MOST, 0), BAD);
        Due.is(x.step(-1, -2), BAD);
        Due.is(x.step(LEAST, LEAST), BAD);
        Due.is(x.step(MOST, MOST - 1), BAD);
    }

    @Says(promise = 17, words = "BAD: t, i.")
    static void stepOfNoStep() {
        PlanClauses x = chain(1);
        for (int t = 1; t <= 5; t++) {
            Due.is(x.step(t, -1), BAD);
            Due.is(x.step(t, t), BAD);
            Due.is(x.step(t, LEAST), BAD);
            Due.is(x.step(t, MOST), BAD);
        }
        Due.is(x.step(1, 4), BAD);
    }

    @Says(promise = 17, words = "BAD: t, i.")
    static void stepOfAPlanOfNone() {
        PlanClauses x = chain(0);
        Due.is(x.plan(0), 1);
        Due.is(x.step(0, 0), BAD);
        Due.is(x.step(0, -1), BAD);
        Due.is(x.step(0, 1), BAD);
        Due.is(x.step(0, MOST), BAD);
        Due.is(x.step(0, LEAST), BAD);
    }

    @Says(promise = 17, words = "BAD: t, i.")
    static void stepBadWithoutAPlan() {
        PlanClauses x = withoutPlan();
        Due.is(x.step(0, 0), BAD);
        Due.is(x.step(5, 5), BAD);
        Due.is(x.step(5, -1), BAD);
        Due.is(x.step(6, 0), BAD);
        Due.is(x.step(-1, 0), BAD);
        Due.is(x.step(5, 4), NONE);
    }

    // ---- Promise 18: state

    @Says(promise = 18, words = "The STATE ahead of STEP i")
    static void stateAheadOfTheFirstAndTheLastStep() {
        PlanClauses x = chain(5);
        for (int i = 0; i < 5; i++) {
            Due.is(x.state(5, i), 1 << i);
        }
        PlanClauses y = chain(2);
        int[] due = {1, 2, 4, 4, 4, 4};
        for (int i = 0; i <= 5; i++) {
            Due.is(y.state(5, i), due[i]);
        }
    }

    @Says(promise = 18, words = "The STATE ahead of STEP i")
    static void stateOfNoneAndOfAll() {
        PlanClauses x = Tell.withFacts(6);
        x.action(63, 0, 63);
        x.set(0, 63);
        Due.is(x.state(5, 0), 63);
        Due.is(x.state(5, 1), 0);
        Due.is(x.state(5, 5), 0);
        x.set(1, 63);
        Due.is(x.state(5, 5), 63);
        PlanClauses y = new PlanClauses();
        Due.is(y.state(0, 0), 0);
        Due.is(y.state(5, 5), 0);
    }

    @Says(promise = 18, words = "(i = t: at the end)")
    static void stateAtTheEnd() {
        for (int t = 0; t <= 5; t++) {
            Due.is(chain(t).state(t, t), 1 << t);
        }
    }

    @Says(promise = 18, words = "(i = t: at the end)")
    static void stateOfAPlanOfNoSteps() {
        PlanClauses x = Tell.withFacts(6);
        x.action(0, 63, 0);
        x.set(0, 42);
        Due.is(x.state(0, 0), 42);
        Due.is(x.state(0, 1), BAD);
        Due.is(x.state(0, -1), BAD);
        Due.is(x.state(1, 1), 63);
    }

    @Says(promise = 18, words = "of the first PLAN of t;")
    static void stateOfTheFirstOfManyPlans() {
        PlanClauses x = Tell.withFacts(3);
        x.action(0, 1, 6);
        x.action(0, 2, 5);
        x.action(0, 4, 3);
        Due.is(x.state(1, 1), 1);
        x.set(1, 4);
        Due.is(x.state(2, 1), 1);
        Due.is(x.state(2, 2), 4);
    }

    @Says(promise = 18, words = "NONE.")
    static void stateWithoutAPlan() {
        PlanClauses x = withoutPlan();
        for (int t = 0; t <= 5; t++) {
            Due.is(x.state(t, 0), NONE);
            Due.is(x.state(t, t), NONE);
        }
        PlanClauses y = chain(5);
        Due.is(y.state(4, 0), NONE);
        Due.is(y.state(4, 4), NONE);
        Due.is(y.state(5, 4), 16);
    }

    @Says(promise = 18, words = "BAD.")
    static void stateOfNoLength() {
        PlanClauses x = chain(1);
        Due.is(x.state(-1, 0), BAD);
        Due.is(x.state(-1, -1), BAD);
        Due.is(x.state(6, 0), BAD);
        Due.is(x.state(6, 6), BAD);
        Due.is(x.state(LEAST, 0), BAD);
        Due.is(x.state(MOST, 0), BAD);
        Due.is(x.state(LEAST, LEAST), BAD);
        Due.is(x.state(MOST, MOST), BAD);
    }

    @Says(promise = 18, words = "BAD.")
    static void stateOfNoStep() {
        PlanClauses x = chain(1);
        for (int t = 1; t <= 5; t++) {
            Due.is(x.state(t, -1), BAD);
            Due.is(x.state(t, t + 1), BAD);
            Due.is(x.state(t, LEAST), BAD);
            Due.is(x.state(t, MOST), BAD);
        }
        Due.is(x.state(1, 5), BAD);
    }

    @Says(promise = 18, words = "BAD.")
    static void stateBadWithoutAPlan() {
        PlanClauses x = withoutPlan();
        Due.is(x.state(0, 1), BAD);
        Due.is(x.state(5, 6), BAD);
        Due.is(x.state(5, -1), BAD);
        Due.is(x.state(6, 0), BAD);
        Due.is(x.state(-1, 0), BAD);
        Due.is(x.state(5, 5), NONE);
    }

    // ---- Promise 19: shortest

    @Says(promise = 19, words = "The least t of 0 .. 5 with a PLAN")
    static void shortestOfEachLength() {
        for (int length = 0; length <= 5; length++) {
            Due.is(chain(length).shortest(), length);
        }
    }

    @Says(promise = 19, words = "The least t of 0 .. 5 with a PLAN")
    static void shortestOfNoSteps() {
        Due.is(new PlanClauses().shortest(), 0);
        PlanClauses x = Tell.withFacts(6);
        Due.is(x.shortest(), 0);
        x.set(0, 63);
        x.set(1, 63);
        Tell.idleActions(x, 5);
        Due.is(x.shortest(), 0);
    }

    /** 0, 1, 2, 0, 1 and then 3. */
    @Says(promise = 19, words = "The least t of 0 .. 5 with a PLAN")
    static void shortestOfFiveAndOfSix() {
        PlanClauses x = roundTwice();
        x.set(1, 12);
        Due.is(x.shortest(), 5);
        x.set(1, 16);
        Due.is(x.shortest(), NONE);
        x.set(0, 2);
        Due.is(x.shortest(), 5);
    }

    @Says(promise = 19, words = "NONE.")
    static void shortestWhereSixStepsWouldDo() {
        PlanClauses x = roundTwice();
        x.set(1, 16);
        Due.is(x.shortest(), NONE);
        Due.is(x.plan(5), 0);
    }

    @Says(promise = 19, words = "NONE.")
    static void shortestWithoutAPlan() {
        Due.is(withoutPlan().shortest(), NONE);
        PlanClauses x = Tell.withFacts(1);
        x.set(1, 1);
        Due.is(x.shortest(), NONE);
        x.set(0, 1);
        Due.is(x.shortest(), 0);
    }

    /** Facts 0, 1, 2 in a round; 3 holds from its end on, and 4 can be had at its end if 3 holds. */
    private static PlanClauses roundTwice() {
        PlanClauses x = Tell.withFacts(5);
        x.action(1, 2, 1);
        x.action(2, 4, 2);
        x.action(4, 9, 4);
        x.action(12, 16, 0);
        x.set(0, 1);
        return x;
    }

    // ---- Promise 20: plans

    @Says(promise = 20, words = "How many PLANS of t there are")
    static void plansNone() {
        PlanClauses x = withoutPlan();
        for (int t = 0; t <= 5; t++) {
            Due.is(x.plans(t), 0);
        }
        Due.is(chain(5).plans(4), 0);
    }

    @Says(promise = 20, words = "How many PLANS of t there are")
    static void plansOne() {
        Due.is(chain(5).plans(5), 1);
        PlanClauses x = new PlanClauses();
        for (int t = 0; t <= 5; t++) {
            Due.is(x.plans(t), 1);
        }
    }

    @Says(promise = 20, words = "How many PLANS of t there are")
    static void plansOfNoSteps() {
        PlanClauses x = Tell.withFacts(1);
        Tell.idleActions(x, 5);
        Due.is(x.plans(0), 1);
        x.set(1, 1);
        Due.is(x.plans(0), 0);
        x.set(0, 1);
        Due.is(x.plans(0), 1);
    }

    /** Of each step, one action more than there are: NOTHING. */
    @Says(promise = 20, words = "How many PLANS of t there are")
    static void plansOfAllRows() {
        for (int actions = 0; actions <= 5; actions++) {
            PlanClauses x = Tell.withFacts(1);
            Tell.idleActions(x, actions);
            int all = 1;
            for (int t = 0; t <= 5; t++) {
                Due.is(x.plans(t), Math.min(all, 60));
                all *= actions + 1;
            }
        }
    }

    @Says(promise = 20, words = "60 at most.")
    static void plansFiftyNine() {
        int[][] actions = {{1, 3, 0}, {0, 1, 2}};
        Due.is(plansByTrying(actions, 2, 2, 5), 59);
        Due.is(ofTwoFacts(actions, 2, 2).plans(5), 59);
    }

    @Says(promise = 20, words = "60 at most.")
    static void plansSixty() {
        int[][] actions = {{2, 1, 2}, {0, 2, 0}, {0, 1, 0}};
        Due.is(plansByTrying(actions, 0, 3, 4), 60);
        Due.is(ofTwoFacts(actions, 0, 3).plans(4), 60);
    }

    @Says(promise = 20, words = "60 at most.")
    static void plansSixtyOne() {
        int[][] actions = {{0, 1, 0}, {0, 2, 0}, {2, 0, 1}};
        Due.is(plansByTrying(actions, 0, 3, 4), 61);
        Due.is(ofTwoFacts(actions, 0, 3).plans(4), 60);
    }

    @Says(promise = 20, words = "60 at most.")
    static void plansOfFiveActionsInFiveSteps() {
        PlanClauses x = Tell.withFacts(6);
        Tell.idleActions(x, 5);
        Due.is(x.plans(2), 36);
        Due.is(x.plans(3), 60);
        Due.is(x.plans(5), 60);
    }

    private static PlanClauses ofTwoFacts(int[][] actions, int beginning, int goal) {
        PlanClauses x = Tell.withFacts(2);
        for (int[] action : actions) {
            x.action(action[0], action[1], action[2]);
        }
        x.set(0, beginning);
        x.set(1, goal);
        return x;
    }

    private static int plansByTrying(int[][] actions, int beginning, int goal, int t) {
        Plain plain = new Plain();
        plain.facts(2);
        for (int[] action : actions) {
            plain.action(action[0], action[1], action[2]);
        }
        plain.set(0, beginning);
        plain.set(1, goal);
        return plain.allPlans(t).size();
    }

    @Says(promise = 20, words = "BAD.")
    static void plansBelowAndBeyond() {
        PlanClauses x = chain(1);
        Due.is(x.plans(-1), BAD);
        Due.is(x.plans(6), BAD);
        Due.is(x.plans(7), BAD);
        Due.is(x.plans(LEAST), BAD);
        Due.is(x.plans(MOST), BAD);
        Due.is(x.plans(1), 1);
    }

    @Says(promise = 20, words = "BAD.")
    static void plansBadWhereThereIsNone() {
        PlanClauses x = withoutPlan();
        Due.is(x.plans(-1), BAD);
        Due.is(x.plans(6), BAD);
        Due.is(x.plans(5), 0);
    }

    // ---- Promise 21: code

    @Says(promise = 21, words = "Of THE CODE of t: 0 VARIABLES,")
    static void codeVariables() {
        int[][] due = {{6, 17, 28, 39, 50, 61}, {0, 5, 10, 15, 20, 25}, {6, 12, 18, 24, 30, 36}, {0, 0, 0, 0, 0, 0}};
        PlanClauses[] objects = {largest(), withFiveActions(0), Tell.withFacts(6), new PlanClauses()};
        for (int o = 0; o < objects.length; o++) {
            for (int t = 0; t <= 5; t++) {
                Due.is(objects[o].code(t, 0), due[o][t]);
            }
        }
    }

    @Says(promise = 21, words = "1 CLAUSES,")
    static void codeClauses() {
        int[][] due = {{12, 94, 176, 258, 340, 422}, {0, 10, 20, 30, 40, 50}, {6, 18, 30, 42, 54, 66},
            {0, 0, 0, 0, 0, 0}};
        PlanClauses[] objects = {largest(), withFiveActions(0), Tell.withFacts(6), new PlanClauses()};
        for (int o = 0; o < objects.length; o++) {
            for (int t = 0; t <= 5; t++) {
                Due.is(objects[o].code(t, 1), due[o][t]);
            }
        }
    }

    @Says(promise = 21, words = "2 LITERALS in all.")
    static void codeLiterals() {
        int[][] due = {{12, 206, 400, 594, 788, 982}, {0, 20, 40, 60, 80, 100}, {6, 30, 54, 78, 102, 126},
            {0, 0, 0, 0, 0, 0}};
        PlanClauses[] objects = {largest(), withFiveActions(0), Tell.withFacts(6), new PlanClauses()};
        for (int o = 0; o < objects.length; o++) {
            for (int t = 5; t >= 0; t--) {
                Due.is(objects[o].code(t, 2), due[o][t]);
            }
        }
    }

    @Says(promise = 21, words = "Of THE CODE of t:")
    static void codeOfATaskThatChanges() {
        PlanClauses x = Tell.withFacts(2);
        Due.is(x.code(1, 1), 6);
        x.action(0, 0, 0);
        Due.is(x.code(1, 1), 6);
        Due.is(x.code(1, 0), 5);
        x.action(3, 1, 2);
        Due.is(x.code(1, 1), 11);
        Due.is(x.code(1, 2), 22);
        x.set(1, 3);
        Due.is(x.code(1, 1), 13);
        x.set(0, 3);
        Due.is(x.code(1, 1), 13);
        x.facts(2);
        Due.is(x.code(1, 1), 6);
    }

    @Says(promise = 21, words = "Of THE CODE of t:")
    static void codeIsNotOfTheObjectsOwnClauses() {
        PlanClauses x = Tell.withVariables(30);
        Tell.clause(x, 1, 2, 3);
        x.facts(1);
        Due.is(x.code(0, 0), 1);
        Due.is(x.code(0, 1), 1);
        Due.is(x.code(0, 2), 1);
        Due.is(x.count(0), 30);
        Due.is(x.count(1), 1);
    }

    @Says(promise = 21, words = "BAD.")
    static void codeOfNoLength() {
        PlanClauses x = largest();
        for (int what = 0; what <= 2; what++) {
            Due.is(x.code(-1, what), BAD);
            Due.is(x.code(6, what), BAD);
            Due.is(x.code(LEAST, what), BAD);
            Due.is(x.code(MOST, what), BAD);
        }
        Due.is(x.code(5, 1), 422);
    }

    @Says(promise = 21, words = "BAD.")
    static void codeOfNothingTold() {
        PlanClauses x = largest();
        for (int t = 0; t <= 5; t++) {
            Due.is(x.code(t, -1), BAD);
            Due.is(x.code(t, 3), BAD);
            Due.is(x.code(t, LEAST), BAD);
            Due.is(x.code(t, MOST), BAD);
        }
        Due.is(x.code(5, 2), 982);
    }

    /** Each action asks for, and adds or takes, all of 6 facts. */
    private static PlanClauses largest() {
        PlanClauses x = Tell.withFacts(6);
        for (int a = 0; a < 5; a++) {
            x.action(63, 63 >> a, 63);
        }
        x.set(0, 63);
        x.set(1, 63);
        return x;
    }

    private static PlanClauses withFiveActions(int facts) {
        PlanClauses x = Tell.withFacts(facts);
        Tell.idleActions(x, 5);
        return x;
    }

    // ---- Promise 22: coded

    @Says(promise = 22, words = "LITERAL k of CLAUSE i of THE CODE of t;")
    static void codedFirstAndLastClause() {
        PlanClauses x = largest();
        for (int t = 1; t <= 5; t++) {
            int last = 11 + 82 * t;
            int action = (t + 1) * 6 + t * 5;
            Due.is(x.coded(t, 0, 0), 1);
            Due.is(x.coded(t, 0, 1), NONE);
            Due.is(x.coded(t, last, 0), 1 - action);
            Due.is(x.coded(t, last, 1), -action);
            Due.is(x.coded(t, last, 2), NONE);
            Due.is(x.coded(t, last + 1, 0), BAD);
        }
    }

    @Says(promise = 22, words = "LITERAL k of CLAUSE i of THE CODE of t;")
    static void codedOfNoSteps() {
        PlanClauses x = largest();
        x.set(0, 33);
        x.set(1, 34);
        int[] due = {1, -2, -3, -4, -5, 6, 2, 6};
        for (int i = 0; i < due.length; i++) {
            Due.is(x.coded(0, i, 0), due[i]);
            Due.is(x.coded(0, i, 1), NONE);
        }
        Due.is(x.coded(0, due.length, 0), BAD);
    }

    @Says(promise = 22, words = "LITERAL k of CLAUSE i of THE CODE of t;")
    static void codedOfOneLengthAfterAnother() {
        PlanClauses x = chain(1);
        Due.is(x.coded(5, 6, 0), 32);
        Due.is(x.coded(0, 6, 0), 2);
        Due.is(x.coded(4, 6, 0), 26);
        Due.is(x.coded(0, 7, 0), BAD);
        Due.is(x.coded(5, 6, 0), 32);
    }

    /** The last step's clause on fact 5 has it at 4, not at 5, and all actions. */
    @Says(promise = 22, words = "LITERAL k of CLAUSE i of THE CODE of t;")
    static void codedLongestClause() {
        PlanClauses adding = Tell.withFacts(6);
        PlanClauses taking = Tell.withFacts(6);
        for (int a = 0; a < 5; a++) {
            adding.action(0, 32, 0);
            taking.action(0, 0, 32);
        }
        int last = 6 + 4 * (5 + 12 + 10) + 5 + 10;
        clauseIs(adding, last, 30, -36, 57, 58, 59, 60, 61);
        clauseIs(adding, last + 1, -30, 36);
        clauseIs(taking, last, 30, -36);
        clauseIs(taking, last + 1, -30, 36, 57, 58, 59, 60, 61);
    }

    private static void clauseIs(PlanClauses x, int i, int... due) {
        for (int k = 0; k < due.length; k++) {
            Due.is(x.coded(5, i, k), due[k]);
        }
        Due.is(x.coded(5, i, due.length), NONE);
        Due.is(x.coded(5, i, due.length + 1), NONE);
    }

    /** No other code has so many clauses: each is read, of five objects, for one has 512 calls. */
    @Says(promise = 22, words = "LITERAL k of CLAUSE i of THE CODE of t;")
    static void codedAllOfTheLargest() {
        Plain plain = new Plain();
        plain.facts(6);
        for (int a = 0; a < 5; a++) {
            plain.action(63, 63 >> a, 63);
        }
        plain.set(0, 63);
        plain.set(1, 63);
        List<int[]> due = plain.allCode(5);
        Due.is(due.size(), 422);
        PlanClauses x = largest();
        for (int i = 0; i < due.size(); i++) {
            x = i % 80 == 0 ? largest() : x;
            clauseIs(x, i, due.get(i));
        }
    }

    @Says(promise = 22, words = "NONE: it has not so many.")
    static void codedOneBehindTheLastLiteral() {
        PlanClauses x = Tell.withFacts(1);
        x.action(1, 0, 1);
        int[] lengths = {1, 2, 2, 2, 3};
        for (int i = 0; i < lengths.length; i++) {
            Due.holds("it has so many", x.coded(1, i, lengths[i] - 1) != NONE);
            Due.is(x.coded(1, i, lengths[i]), NONE);
            Due.is(x.coded(1, i, lengths[i] + 1), NONE);
        }
        Due.is(x.coded(1, lengths.length, 0), BAD);
    }

    @Says(promise = 22, words = "NONE: it has not so many.")
    static void codedGreatestK() {
        PlanClauses x = largest();
        Due.is(x.coded(5, 0, MOST), NONE);
        Due.is(x.coded(5, 421, MOST), NONE);
        Due.is(x.coded(5, 1, MOST - 1), NONE);
        Due.is(x.coded(0, 0, MOST), NONE);
    }

    @Says(promise = 22, words = "BAD: t,")
    static void codedOfNoLength() {
        PlanClauses x = largest();
        Due.is(x.coded(-1, 0, 0), BAD);
        Due.is(x.coded(6, 0, 0), BAD);
        Due.is(x.coded(LEAST, 0, 0), BAD);
        Due.is(x.coded(MOST, 0, 0), BAD);
        Due.is(x.coded(6, 421, 1), BAD);
    }

    @Says(promise = 22, words = "BAD: t, i;")
    static void codedNoSuchClause() {
        PlanClauses x = largest();
        int[] clauses = {12, 94, 176, 258, 340, 422};
        for (int t = 0; t <= 5; t++) {
            Due.is(x.coded(t, -1, 0), BAD);
            Due.is(x.coded(t, clauses[t], 0), BAD);
            Due.is(x.coded(t, clauses[t] + 1, 0), BAD);
            Due.is(x.coded(t, LEAST, 0), BAD);
            Due.is(x.coded(t, MOST, 0), BAD);
        }
    }

    @Says(promise = 22, words = "BAD: t, i;")
    static void codedWithoutClauses() {
        PlanClauses x = new PlanClauses();
        Due.is(x.coded(0, 0, 0), BAD);
        Due.is(x.coded(5, 0, 0), BAD);
        Due.is(x.coded(5, -1, 0), BAD);
        x.action(0, 0, 0);
        Due.is(x.coded(5, 0, 0), BAD);
        x.action(0, 0, 0);
        Due.is(x.coded(5, 0, 0), -1);
        Due.is(x.coded(5, 4, 1), -10);
        Due.is(x.coded(5, 5, 0), BAD);
    }

    @Says(promise = 22, words = "k below 0.")
    static void codedKBelowNone() {
        PlanClauses x = largest();
        Due.is(x.coded(5, 1, -1), BAD);
        Due.is(x.coded(5, 421, -1), BAD);
        Due.is(x.coded(5, 421, -2), BAD);
        Due.is(x.coded(5, 421, LEAST), BAD);
        Due.is(x.coded(0, 11, LEAST), BAD);
    }

    @Says(promise = 22, words = "BAD: t, i; k below 0.")
    static void codedBadWhereItHasNotSoMany() {
        PlanClauses x = largest();
        Due.is(x.coded(5, 422, 7), BAD);
        Due.is(x.coded(5, -1, 7), BAD);
        Due.is(x.coded(6, 0, 7), BAD);
        Due.is(x.coded(-1, 0, MOST), BAD);
        Due.is(x.coded(5, MOST, MOST), BAD);
        Due.is(x.coded(5, 421, 7), NONE);
    }

    // ---- Promise 23: count

    @Says(promise = 23, words = "0 VARIABLES,")
    static void countVariables() {
        PlanClauses x = new PlanClauses();
        Due.is(x.count(0), 0);
        x.variables(30);
        Due.is(x.count(0), 30);
        x.variables(31);
        Due.is(x.count(0), 30);
        x.variables(1);
        Due.is(x.count(0), 1);
        x.variables(0);
        Due.is(x.count(0), 0);
    }

    @Says(promise = 23, words = "1 CLAUSES,")
    static void countClauses() {
        PlanClauses x = new PlanClauses();
        Due.is(x.count(1), 0);
        x.drop();
        Due.is(x.count(1), 0);
        x.clause();
        Due.is(x.count(1), 1);
        Tell.clausesOfNone(x, 399);
        Due.is(x.count(1), 400);
        x.clause();
        Due.is(x.count(1), 400);
        x.drop();
        Due.is(x.count(1), 399);
    }

    @Says(promise = 23, words = "2 LITERALS of THE DRAFT,")
    static void countLiteralsOfTheDraft() {
        PlanClauses x = Tell.withVariables(8);
        Due.is(x.count(2), 0);
        for (int v = 1; v <= 6; v++) {
            x.literal(v);
            Due.is(x.count(2), v);
        }
        x.literal(7);
        Due.is(x.count(2), 6);
        x.clause();
        Due.is(x.count(2), 0);
        x.clause();
        Due.is(x.count(2), 0);
    }

    @Says(promise = 23, words = "3 FACTS,")
    static void countFacts() {
        PlanClauses x = new PlanClauses();
        Due.is(x.count(3), 0);
        x.facts(6);
        Due.is(x.count(3), 6);
        x.facts(7);
        Due.is(x.count(3), 6);
        x.facts(0);
        Due.is(x.count(3), 0);
    }

    @Says(promise = 23, words = "4 ACTIONS,")
    static void countActions() {
        PlanClauses x = Tell.withFacts(1);
        Due.is(x.count(4), 0);
        x.action(2, 0, 0);
        Due.is(x.count(4), 0);
        Tell.idleActions(x, 5);
        Due.is(x.count(4), 5);
        x.action(0, 0, 0);
        Due.is(x.count(4), 5);
        x.facts(1);
        Due.is(x.count(4), 0);
    }

    @Says(promise = 23, words = "5 THE BEGINNING,")
    static void countTheBeginning() {
        PlanClauses x = Tell.withFacts(6);
        Due.is(x.count(5), 0);
        x.set(0, 63);
        Due.is(x.count(5), 63);
        x.set(0, 64);
        x.set(1, 5);
        x.set(2, 7);
        Due.is(x.count(5), 63);
        x.set(0, 0);
        Due.is(x.count(5), 0);
    }

    @Says(promise = 23, words = "6 THE GOAL.")
    static void countTheGoal() {
        PlanClauses x = Tell.withFacts(6);
        Due.is(x.count(6), 0);
        x.set(1, 63);
        Due.is(x.count(6), 63);
        x.set(1, 64);
        x.set(0, 5);
        x.set(2, 7);
        Due.is(x.count(6), 63);
        x.set(1, 0);
        Due.is(x.count(6), 0);
    }

    @Says(promise = 23, words = "BAD.")
    static void countBelowAndBeyond() {
        PlanClauses x = Tell.withVariables(4);
        x.facts(2);
        Due.is(x.count(-1), BAD);
        Due.is(x.count(7), BAD);
        Due.is(x.count(8), BAD);
        Due.is(x.count(LEAST), BAD);
        Due.is(x.count(MOST), BAD);
        Due.is(x.count(6), 0);
        Due.is(x.count(0), 4);
    }
}
