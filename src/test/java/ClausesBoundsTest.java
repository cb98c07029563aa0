/** Promises 1 to 12: a test of its own for each boundary case of each sentence. */
final class ClausesBoundsTest {
    private static final int BAD = PlanClauses.BAD, STATE = PlanClauses.STATE;
    private static final int FULL = PlanClauses.FULL, NONE = PlanClauses.NONE;
    private static final int NOTHING = PlanClauses.NOTHING;
    private static final int LEAST = Integer.MIN_VALUE, MOST = Integer.MAX_VALUE;

    private ClausesBoundsTest() {
    }

    // ---- Promise 1: a new object

    @Says(promise = 1, words = "No VARIABLES,")
    static void newHasNoVariables() {
        PlanClauses x = new PlanClauses();
        Due.is(x.count(0), 0);
        Due.is(x.literal(1), BAD);
        Due.is(x.sat(1), BAD);
        Due.is(x.sat(-1), BAD);
        Due.is(x.value(1), BAD);
        Due.is(x.model(0, 1), BAD);
        Due.is(x.forced(1), BAD);
        Due.is(x.variables(0), 0);
    }

    @Says(promise = 1, words = "no CLAUSES,")
    static void newHasNoClauses() {
        PlanClauses x = new PlanClauses();
        Due.is(x.count(1), 0);
        Due.is(x.at(0, 0), BAD);
        Due.is(x.culprit(), NONE);
        Due.is(x.models(), 1);
        Due.is(x.sat(0), 1);
        Due.is(x.drop(), STATE);
    }

    @Says(promise = 1, words = "no CLAUSES,")
    static void newHasAnEmptyDraft() {
        PlanClauses x = new PlanClauses();
        Due.is(x.count(2), 0);
        Due.is(x.clause(), 1);
        Due.is(x.at(0, 0), NONE);
    }

    @Says(promise = 1, words = "no FACTS,")
    static void newHasNoFacts() {
        PlanClauses x = new PlanClauses();
        Due.is(x.count(3), 0);
        Due.is(x.count(5), 0);
        Due.is(x.count(6), 0);
        Due.is(x.action(1, 0, 0), BAD);
        Due.is(x.set(0, 1), BAD);
        Due.is(x.set(1, 1), BAD);
        Due.is(x.code(5, 1), 0);
        Due.is(x.coded(0, 0, 0), BAD);
        Due.is(x.facts(0), 0);
    }

    @Says(promise = 1, words = "no ACTIONS.")
    static void newHasNoActions() {
        PlanClauses x = new PlanClauses();
        Due.is(x.count(4), 0);
        Due.is(x.step(5, 4), NOTHING);
        Due.is(x.plans(5), 1);
        Due.is(x.code(5, 0), 0);
        Due.is(x.action(0, 0, 0), 0);
    }

    @Says(promise = 1, words = "No VARIABLES, no CLAUSES, no FACTS, no ACTIONS.")
    static void newIsNewBesideAnother() {
        PlanClauses other = Tell.withVariables(30);
        Tell.clause(other, 30);
        Tell.draft(other, 1, 2);
        other.facts(6);
        other.action(63, 63, 0);
        other.set(0, 63);
        other.set(1, 63);
        PlanClauses x = new PlanClauses();
        for (int what = 0; what <= 6; what++) {
            Due.is(x.count(what), 0);
        }
        Tell.clause(x);
        x.facts(1);
        Due.is(other.count(1), 1);
        Due.is(other.sat(0), 1);
        Due.is(other.count(3), 6);
        Due.is(other.code(0, 1), 12);
    }

    // ---- Promise 2: variables

    @Says(promise = 2, words = "There are n VARIABLES (0 .. 30)")
    static void variablesNone() {
        PlanClauses x = Tell.withVariables(1);
        Due.is(x.variables(0), 1);
        Due.is(x.count(0), 0);
        Due.is(x.literal(1), BAD);
        Due.is(x.literal(-1), BAD);
        Due.is(x.sat(1), BAD);
        Due.is(x.value(1), BAD);
        Due.is(x.models(), 1);
    }

    @Says(promise = 2, words = "There are n VARIABLES (0 .. 30)")
    static void variablesOne() {
        PlanClauses x = new PlanClauses();
        Due.is(x.variables(1), 0);
        Due.is(x.count(0), 1);
        Due.is(x.value(1), 0);
        Due.is(x.value(2), BAD);
        Due.is(x.models(), 2);
    }

    @Says(promise = 2, words = "There are n VARIABLES (0 .. 30)")
    static void variablesThirty() {
        PlanClauses x = new PlanClauses();
        Due.is(x.variables(30), 0);
        Due.is(x.count(0), 30);
        Due.is(x.value(30), 0);
        Due.is(x.literal(-30), 1);
        Due.is(x.literal(1), 2);
        Due.is(x.clause(), 1);
        Due.is(x.at(0, 0), -30);
    }

    @Says(promise = 2, words = "There are n VARIABLES (0 .. 30)")
    static void variablesFewerThanThereWere() {
        PlanClauses x = Tell.withVariables(30);
        Due.is(x.models(), 60);
        x.variables(3);
        Due.is(x.models(), 8);
        Due.is(x.sat(3), 1);
        Due.is(x.sat(4), BAD);
        Due.is(x.literal(4), BAD);
        Due.is(x.value(30), BAD);
        Due.is(x.forced(4), BAD);
    }

    @Says(promise = 2, words = "There are n VARIABLES (0 .. 30)")
    static void variablesMoreThanThereWere() {
        PlanClauses x = Tell.withVariables(2);
        Due.is(x.models(), 4);
        Due.is(x.sat(3), BAD);
        x.variables(3);
        Due.is(x.models(), 8);
        Due.is(x.sat(3), 1);
        Due.is(x.literal(-3), 1);
    }

    @Says(promise = 2, words = "THE DRAFT is empty")
    static void variablesEmptyTheDraft() {
        PlanClauses x = Tell.withVariables(6);
        Tell.draft(x, 1, 2, 3, -4, 5, 6);
        Due.is(x.variables(6), 6);
        Due.is(x.count(2), 0);
        Due.is(x.literal(4), 1);
        Due.is(x.literal(6), 2);
        Due.is(x.clause(), 1);
        Due.is(x.at(0, 0), 4);
        Due.is(x.at(0, 1), 6);
        Due.is(x.at(0, 2), NONE);
    }

    @Says(promise = 2, words = "how many there were.")
    static void variablesHowManyThereWere() {
        PlanClauses x = new PlanClauses();
        Due.is(x.variables(0), 0);
        Due.is(x.variables(30), 0);
        Due.is(x.variables(30), 30);
        Due.is(x.variables(31), BAD);
        Due.is(x.variables(0), 30);
        Due.is(x.variables(0), 0);
    }

    @Says(promise = 2, words = "BAD;")
    static void variablesBelowNone() {
        PlanClauses x = Tell.withVariables(4);
        Due.is(x.variables(-1), BAD);
        Due.is(x.variables(-4), BAD);
        Due.is(x.count(0), 4);
    }

    @Says(promise = 2, words = "BAD;")
    static void variablesThirtyOne() {
        PlanClauses x = Tell.withVariables(4);
        Due.is(x.variables(31), BAD);
        Due.is(x.variables(32), BAD);
        Due.is(x.count(0), 4);
    }

    @Says(promise = 2, words = "BAD;")
    static void variablesLeastAndGreatestInt() {
        PlanClauses x = Tell.withVariables(4);
        Due.is(x.variables(LEAST), BAD);
        Due.is(x.variables(MOST), BAD);
        Due.is(x.variables(LEAST + 5), BAD);
        Due.is(x.count(0), 4);
    }

    @Says(promise = 2, words = "STATE: there are CLAUSES.")
    static void variablesWithOneClause() {
        PlanClauses x = Tell.withVariables(4);
        Tell.clause(x, 4);
        Due.is(x.variables(0), STATE);
        Due.is(x.variables(4), STATE);
        Due.is(x.variables(30), STATE);
        Due.is(x.count(0), 4);
    }

    @Says(promise = 2, words = "STATE: there are CLAUSES.")
    static void variablesWithAClauseOfNone() {
        PlanClauses x = Tell.withVariables(4);
        x.clause();
        Due.is(x.variables(5), STATE);
        Due.is(x.count(0), 4);
    }

    @Says(promise = 2, words = "STATE: there are CLAUSES.")
    static void variablesWithFourHundredClauses() {
        PlanClauses x = new PlanClauses();
        Tell.clausesOfNone(x, 400);
        Due.is(x.variables(1), STATE);
        Due.is(x.count(0), 0);
    }

    @Says(promise = 2, words = "STATE: there are CLAUSES.")
    static void variablesWhenAllClausesAreDropped() {
        PlanClauses x = Tell.withVariables(4);
        Tell.clause(x, 1);
        Tell.clause(x, 2);
        x.drop();
        Due.is(x.variables(5), STATE);
        x.drop();
        Due.is(x.variables(5), 4);
        Due.is(x.models(), 32);
    }

    @Says(promise = 2, words = "STATE: there are CLAUSES.")
    static void variablesWithADraftAlone() {
        PlanClauses x = Tell.withVariables(4);
        Tell.draft(x, 1);
        Due.is(x.variables(5), 4);
    }

    // ---- Promise 3: literal

    @Says(promise = 3, words = "A LITERAL comes to THE DRAFT")
    static void literalOfTheFirstVariable() {
        PlanClauses x = Tell.withVariables(2);
        Due.is(x.literal(1), 1);
        x.clause();
        Due.is(x.at(0, 0), 1);
        Due.is(x.literal(-1), 1);
        x.clause();
        Due.is(x.at(1, 0), -1);
    }

    @Says(promise = 3, words = "A LITERAL comes to THE DRAFT")
    static void literalOfTheLastVariable() {
        PlanClauses x = Tell.withVariables(30);
        Due.is(x.literal(30), 1);
        x.clause();
        Due.is(x.at(0, 0), 30);
        Due.is(x.literal(-30), 1);
        x.clause();
        Due.is(x.at(1, 0), -30);
        Due.is(x.culprit(), 1);
    }

    @Says(promise = 3, words = "how many it has.")
    static void literalHowManyUpToSix() {
        PlanClauses x = Tell.withVariables(30);
        int[] literals = {30, -1, 29, -2, 15, -16};
        for (int k = 0; k < 6; k++) {
            Due.is(x.literal(literals[k]), k + 1);
            Due.is(x.count(2), k + 1);
        }
        Due.is(x.clause(), 1);
        for (int k = 0; k < 6; k++) {
            Due.is(x.at(0, k), literals[k]);
        }
    }

    @Says(promise = 3, words = "BAD: no VARIABLE,")
    static void literalZero() {
        PlanClauses x = Tell.withVariables(3);
        Due.is(x.literal(0), BAD);
        Due.is(x.count(2), 0);
    }

    @Says(promise = 3, words = "BAD: no VARIABLE,")
    static void literalOneBeyond() {
        PlanClauses x = Tell.withVariables(3);
        Due.is(x.literal(4), BAD);
        Due.is(x.literal(-4), BAD);
        Due.is(x.count(2), 0);
        PlanClauses y = Tell.withVariables(30);
        Due.is(y.literal(31), BAD);
        Due.is(y.literal(-31), BAD);
        Due.is(y.count(2), 0);
    }

    @Says(promise = 3, words = "BAD: no VARIABLE,")
    static void literalLeastAndGreatestInt() {
        PlanClauses x = Tell.withVariables(30);
        Due.is(x.literal(LEAST), BAD);
        Due.is(x.literal(LEAST + 1), BAD);
        Due.is(x.literal(MOST), BAD);
        Due.is(x.count(2), 0);
    }

    /** 32 and 64 more are the same place of a bit. */
    @Says(promise = 3, words = "BAD: no VARIABLE,")
    static void literalWrappedAround() {
        PlanClauses x = Tell.withVariables(30);
        for (int turn = 32; turn <= 256; turn *= 2) {
            Due.is(x.literal(turn + 1), BAD);
            Due.is(x.literal(-turn - 1), BAD);
            Due.is(x.literal(turn), BAD);
            Due.is(x.literal(-turn), BAD);
        }
        Due.is(x.count(2), 0);
    }

    @Says(promise = 3, words = "BAD: no VARIABLE,")
    static void literalWithoutVariables() {
        PlanClauses x = new PlanClauses();
        Due.is(x.literal(0), BAD);
        Due.is(x.literal(1), BAD);
        Due.is(x.literal(-1), BAD);
        Due.is(x.count(2), 0);
    }

    @Says(promise = 3, words = "it has that one already")
    static void literalTwice() {
        PlanClauses x = Tell.withVariables(3);
        x.literal(3);
        x.literal(-1);
        Due.is(x.literal(3), BAD);
        Due.is(x.literal(-1), BAD);
        Due.is(x.count(2), 2);
        Due.is(x.literal(2), 3);
    }

    @Says(promise = 3, words = "(either way);")
    static void literalTheOtherWay() {
        PlanClauses x = Tell.withVariables(3);
        x.literal(3);
        x.literal(-1);
        Due.is(x.literal(-3), BAD);
        Due.is(x.literal(1), BAD);
        Due.is(x.count(2), 2);
    }

    @Says(promise = 3, words = "it has that one already (either way)")
    static void literalOfAnEarlierClauseIsNotInTheDraft() {
        PlanClauses x = Tell.withVariables(3);
        Tell.clause(x, 3, -1);
        Due.is(x.literal(3), 1);
        Due.is(x.literal(1), 2);
    }

    @Says(promise = 3, words = "it has that one already (either way)")
    static void literalSixthOnceMore() {
        PlanClauses x = Tell.withVariables(8);
        Tell.draft(x, 1, 2, 3, 4, 5);
        Due.is(x.literal(5), BAD);
        Due.is(x.literal(-1), BAD);
        Due.is(x.literal(8), 6);
    }

    @Says(promise = 3, words = "FULL: 6.")
    static void literalSeventh() {
        PlanClauses x = Tell.withVariables(8);
        Tell.draft(x, 1, 2, 3, 4, 5, 6);
        Due.is(x.literal(7), FULL);
        Due.is(x.literal(-8), FULL);
        Due.is(x.count(2), 6);
        Due.is(x.clause(), 1);
        Due.is(x.at(0, 5), 6);
        Due.is(x.at(0, 6), NONE);
        Due.is(x.literal(7), 1);
    }

    @Says(promise = 3, words = "FULL: 6.")
    static void literalSeventhThatIsBad() {
        PlanClauses x = Tell.withVariables(8);
        Tell.draft(x, 1, 2, 3, 4, 5, 6);
        Due.is(x.literal(6), BAD);
        Due.is(x.literal(-1), BAD);
        Due.is(x.literal(0), BAD);
        Due.is(x.literal(9), BAD);
        Due.is(x.literal(-9), BAD);
        Due.is(x.literal(LEAST), BAD);
        Due.is(x.count(2), 6);
    }

    // ---- Promise 4: clause

    @Says(promise = 4, words = "THE DRAFT becomes a CLAUSE")
    static void clauseOfOne() {
        PlanClauses x = Tell.withVariables(2);
        x.literal(-2);
        Due.is(x.clause(), 1);
        Due.is(x.at(0, 0), -2);
        Due.is(x.at(0, 1), NONE);
        Due.is(x.sat(2), 0);
        Due.is(x.models(), 2);
    }

    @Says(promise = 4, words = "THE DRAFT becomes a CLAUSE")
    static void clauseOfSix() {
        PlanClauses x = Tell.withVariables(6);
        Tell.draft(x, 1, -2, 3, -4, 5, -6);
        Due.is(x.clause(), 1);
        Due.is(x.at(0, 0), 1);
        Due.is(x.at(0, 5), -6);
        Due.is(x.at(0, 6), NONE);
        Due.is(x.models(), 60);
    }

    @Says(promise = 4, words = "(of none, too)")
    static void clauseOfNone() {
        PlanClauses x = Tell.withVariables(2);
        Due.is(x.clause(), 1);
        Due.is(x.at(0, 0), NONE);
        Due.is(x.count(1), 1);
        Due.is(x.sat(0), 0);
        Due.is(x.models(), 0);
        Due.is(x.clause(), 2);
        Due.is(x.culprit(), 0);
    }

    @Says(promise = 4, words = "(of none, too)")
    static void clauseOfNoneWithoutVariables() {
        PlanClauses x = new PlanClauses();
        Due.is(x.clause(), 1);
        Due.is(x.sat(0), 0);
        Due.is(x.models(), 0);
        Due.is(x.at(0, 0), NONE);
    }

    @Says(promise = 4, words = "and is empty then")
    static void clauseEmptiesTheDraft() {
        PlanClauses x = Tell.withVariables(6);
        Tell.draft(x, 1, 2, 3, 4, 5, 6);
        x.clause();
        Due.is(x.count(2), 0);
        Due.is(x.clause(), 2);
        Due.is(x.at(1, 0), NONE);
        Due.is(x.literal(-6), 1);
        x.clause();
        Due.is(x.at(2, 0), -6);
        Due.is(x.at(2, 1), NONE);
    }

    @Says(promise = 4, words = "how many CLAUSES.")
    static void clauseHowManyUpToFourHundred() {
        PlanClauses x = new PlanClauses();
        for (int many = 1; many <= 400; many++) {
            Due.is(x.clause(), many);
        }
        Due.is(x.count(1), 400);
    }

    @Says(promise = 4, words = "how many CLAUSES.")
    static void clauseHowManyAfterDrop() {
        PlanClauses x = new PlanClauses();
        x.clause();
        x.clause();
        x.drop();
        Due.is(x.clause(), 2);
    }

    @Says(promise = 4, words = "FULL: 400")
    static void clauseFourHundredAndFirst() {
        PlanClauses x = Tell.withVariables(2);
        Tell.clausesOfNone(x, 399);
        Tell.draft(x, 1);
        Due.is(x.clause(), 400);
        Due.is(x.clause(), FULL);
        Due.is(x.count(1), 400);
        Due.is(x.at(399, 0), 1);
        Due.is(x.at(400, 0), BAD);
        Due.is(x.drop(), 399);
        Due.is(x.clause(), 400);
    }

    @Says(promise = 4, words = "(it stays)")
    static void clauseRefusedKeepsTheDraft() {
        PlanClauses x = Tell.withVariables(9);
        Tell.clausesOfNone(x, 400);
        Tell.draft(x, 9, -8, 7);
        Due.is(x.clause(), FULL);
        Due.is(x.count(2), 3);
        Due.is(x.literal(8), BAD);
        Due.is(x.literal(6), 4);
        Due.is(x.clause(), FULL);
        x.drop();
        Due.is(x.clause(), 400);
        int[] due = {9, -8, 7, 6, NONE};
        for (int k = 0; k < due.length; k++) {
            Due.is(x.at(399, k), due[k]);
        }
    }

    // ---- Promise 5: drop

    @Says(promise = 5, words = "The latest CLAUSE is gone")
    static void dropTheLatest() {
        PlanClauses x = Tell.withVariables(3);
        Tell.clause(x, 1);
        Tell.clause(x, 2, 3);
        Tell.clause(x, -1);
        Due.is(x.sat(0), 0);
        x.drop();
        Due.is(x.at(0, 0), 1);
        Due.is(x.at(1, 1), 3);
        Due.is(x.at(2, 0), BAD);
        Due.is(x.models(), 3);
        Due.is(x.culprit(), NONE);
    }

    @Says(promise = 5, words = "The latest CLAUSE is gone")
    static void dropKeepsTheDraft() {
        PlanClauses x = Tell.withVariables(3);
        Tell.clause(x, 1);
        Tell.draft(x, -2, 3);
        x.drop();
        Due.is(x.count(2), 2);
        Due.is(x.clause(), 1);
        Due.is(x.at(0, 0), -2);
        Due.is(x.at(0, 1), 3);
    }

    @Says(promise = 5, words = "The latest CLAUSE is gone")
    static void dropAClauseOfNone() {
        PlanClauses x = Tell.withVariables(1);
        x.clause();
        Due.is(x.sat(0), 0);
        Due.is(x.drop(), 0);
        Due.is(x.sat(0), 1);
        Due.is(x.models(), 2);
    }

    @Says(promise = 5, words = "how many are left.")
    static void dropFromFourHundred() {
        PlanClauses x = new PlanClauses();
        Tell.clausesOfNone(x, 400);
        Due.is(x.drop(), 399);
        Due.is(x.count(1), 399);
        Due.is(x.at(399, 0), BAD);
        Due.is(x.at(398, 0), NONE);
    }

    @Says(promise = 5, words = "how many are left.")
    static void dropTheOnlyOne() {
        PlanClauses x = Tell.withVariables(1);
        Tell.clause(x, 1);
        Due.is(x.drop(), 0);
        Due.is(x.count(1), 0);
        Due.is(x.at(0, 0), BAD);
        Due.is(x.models(), 2);
    }

    @Says(promise = 5, words = "STATE: there is none.")
    static void dropNone() {
        PlanClauses x = new PlanClauses();
        Due.is(x.drop(), STATE);
        Due.is(x.drop(), STATE);
        Due.is(x.count(1), 0);
        Due.is(x.clause(), 1);
    }

    @Says(promise = 5, words = "STATE: there is none.")
    static void dropOnceMoreThanThereAre() {
        PlanClauses x = Tell.withVariables(1);
        Tell.clausesOf(x, 1, 3);
        Due.is(x.drop(), 2);
        Due.is(x.drop(), 1);
        Due.is(x.drop(), 0);
        Due.is(x.drop(), STATE);
        Due.is(x.count(1), 0);
    }

    @Says(promise = 5, words = "STATE: there is none.")
    static void dropADraftAlone() {
        PlanClauses x = Tell.withVariables(1);
        x.literal(1);
        Due.is(x.drop(), STATE);
        Due.is(x.count(2), 1);
    }

    // ---- Promise 6: at

    @Says(promise = 6, words = "LITERAL k of CLAUSE i")
    static void atFirstAndLastLiteral() {
        PlanClauses x = Tell.withVariables(30);
        Tell.clause(x, 30, -29, 1, -2, 3, -4);
        Tell.clause(x, 5);
        int[] due = {30, -29, 1, -2, 3, -4};
        for (int k = 0; k < 6; k++) {
            Due.is(x.at(0, k), due[k]);
        }
        Due.is(x.at(1, 0), 5);
    }

    @Says(promise = 6, words = "LITERAL k of CLAUSE i")
    static void atFirstAndLastOfFourHundred() {
        PlanClauses x = Tell.withVariables(3);
        Tell.clause(x, 1);
        Tell.clausesOfNone(x, 398);
        Tell.clause(x, -2, 3);
        Due.is(x.at(0, 0), 1);
        Due.is(x.at(1, 0), NONE);
        Due.is(x.at(398, 0), NONE);
        Due.is(x.at(399, 0), -2);
        Due.is(x.at(399, 1), 3);
        Due.is(x.at(399, 2), NONE);
        Due.is(x.at(400, 0), BAD);
    }

    @Says(promise = 6, words = "NONE: it has not so many.")
    static void atOneBehindTheLastLiteral() {
        PlanClauses x = Tell.withVariables(6);
        Tell.clause(x, 1);
        Tell.clause(x, 1, 2, 3, 4, 5, 6);
        Tell.clause(x, 2);
        Due.is(x.at(0, 1), NONE);
        Due.is(x.at(1, 6), NONE);
        Due.is(x.at(1, 7), NONE);
        Due.is(x.at(2, 1), NONE);
    }

    @Says(promise = 6, words = "NONE: it has not so many.")
    static void atGreatestK() {
        PlanClauses x = Tell.withVariables(6);
        Tell.clause(x, 1, 2, 3, 4, 5, 6);
        Tell.clause(x, 1);
        Due.is(x.at(0, MOST), NONE);
        Due.is(x.at(1, MOST), NONE);
        Due.is(x.at(1, MOST - 5), NONE);
    }

    @Says(promise = 6, words = "NONE: it has not so many.")
    static void atOfAClauseOfNone() {
        PlanClauses x = Tell.withVariables(6);
        Tell.clause(x, 1, 2);
        x.drop();
        x.clause();
        Due.is(x.at(0, 0), NONE);
        Due.is(x.at(0, 1), NONE);
        Due.is(x.at(0, -1), BAD);
    }

    @Says(promise = 6, words = "BAD: the CLAUSE;")
    static void atNoSuchClause() {
        PlanClauses x = Tell.withVariables(6);
        Tell.clause(x, 1);
        Tell.clause(x, 2);
        Tell.draft(x, 3);
        Due.is(x.at(2, 0), BAD);
        Due.is(x.at(-1, 0), BAD);
        Due.is(x.at(LEAST, 0), BAD);
        Due.is(x.at(MOST, 0), BAD);
        Due.is(x.at(400, 0), BAD);
    }

    /** 6 times this number is 4, with wrap-around. */
    @Says(promise = 6, words = "BAD: the CLAUSE;")
    static void atClauseWrappedAround() {
        PlanClauses x = Tell.withVariables(6);
        Tell.clause(x, 1, 2, 3, 4, 5, 6);
        Due.is(x.at(1431655766, 0), BAD);
        Due.is(x.at(LEAST / 2, 0), BAD);
        Due.is(x.at(1 << 30, 0), BAD);
    }

    @Says(promise = 6, words = "BAD: the CLAUSE;")
    static void atNoClauses() {
        PlanClauses x = Tell.withVariables(6);
        Tell.clause(x, 1);
        x.drop();
        Due.is(x.at(0, 0), BAD);
        Due.is(x.at(-1, 0), BAD);
    }

    @Says(promise = 6, words = "BAD: the CLAUSE;")
    static void atNoSuchClauseAndNotSoMany() {
        PlanClauses x = Tell.withVariables(6);
        Tell.clause(x, 1);
        Due.is(x.at(1, 1), BAD);
        Due.is(x.at(-1, MOST), BAD);
    }

    @Says(promise = 6, words = "k below 0.")
    static void atKBelowNone() {
        PlanClauses x = Tell.withVariables(6);
        Tell.clause(x, 1, 2, 3, 4, 5, 6);
        Tell.clause(x, 1);
        Due.is(x.at(0, -1), BAD);
        Due.is(x.at(1, -1), BAD);
        Due.is(x.at(1, -6), BAD);
        Due.is(x.at(1, LEAST), BAD);
    }

    // ---- Promise 7: sat

    @Says(promise = 7, words = "Whether there is a MODEL, if a LITERAL has to be true, too")
    static void satOfTheFirstAndLastVariable() {
        PlanClauses x = Tell.withVariables(30);
        Tell.clause(x, 1);
        Tell.clause(x, -30);
        Due.is(x.sat(1), 1);
        Due.is(x.sat(-1), 0);
        Due.is(x.sat(30), 0);
        Due.is(x.sat(-30), 1);
        Due.is(x.sat(29), 1);
        Due.is(x.sat(-29), 1);
    }

    @Says(promise = 7, words = "if a LITERAL has to be true, too")
    static void satAsksForThisTimeAlone() {
        PlanClauses x = Tell.withVariables(2);
        Tell.clause(x, 1, 2);
        Due.is(x.sat(-1), 1);
        Due.is(x.sat(-2), 1);
        Due.is(x.sat(1), 1);
        Due.is(x.models(), 3);
        Due.is(x.count(1), 1);
    }

    @Says(promise = 7, words = "(0: none has to)")
    static void satOfNoLiteral() {
        PlanClauses x = Tell.withVariables(2);
        Due.is(x.sat(0), 1);
        Tell.clause(x, 1);
        Due.is(x.sat(0), 1);
        Tell.clause(x, -1);
        Due.is(x.sat(0), 0);
    }

    @Says(promise = 7, words = "(0: none has to)")
    static void satWithoutVariables() {
        PlanClauses x = new PlanClauses();
        Due.is(x.sat(0), 1);
        x.clause();
        Due.is(x.sat(0), 0);
        x.drop();
        Due.is(x.sat(0), 1);
    }

    @Says(promise = 7, words = ": 1, 0.")
    static void satIsOneOrNone() {
        PlanClauses x = Tell.withVariables(1);
        Due.is(x.sat(1), 1);
        Due.is(x.sat(-1), 1);
        Tell.clause(x, 1);
        Due.is(x.sat(-1), 0);
        Tell.clause(x, -1);
        Due.is(x.sat(1), 0);
        Due.is(x.sat(-1), 0);
    }

    /** More clauses with literals cannot be told in 512 calls. */
    @Says(promise = 7, words = ": 1, 0.")
    static void satOfAsManyClausesAsCanBe() {
        PlanClauses x = Tell.withVariables(30);
        Tell.clausesOf(x, 30, 253);
        Due.is(x.sat(0), 1);
        Tell.clause(x, -30);
        Due.is(x.sat(0), 0);
    }

    @Says(promise = 7, words = "BAD.")
    static void satOneBeyond() {
        PlanClauses x = Tell.withVariables(3);
        Due.is(x.sat(4), BAD);
        Due.is(x.sat(-4), BAD);
        PlanClauses y = Tell.withVariables(30);
        Due.is(y.sat(31), BAD);
        Due.is(y.sat(-31), BAD);
    }

    @Says(promise = 7, words = "BAD.")
    static void satLeastAndGreatestInt() {
        PlanClauses x = Tell.withVariables(30);
        Due.is(x.sat(LEAST), BAD);
        Due.is(x.sat(LEAST + 1), BAD);
        Due.is(x.sat(MOST), BAD);
    }

    @Says(promise = 7, words = "BAD.")
    static void satWrappedAround() {
        PlanClauses x = Tell.withVariables(30);
        Due.is(x.sat(32), BAD);
        Due.is(x.sat(33), BAD);
        Due.is(x.sat(-33), BAD);
        Due.is(x.sat(65), BAD);
        Due.is(x.sat(-65), BAD);
    }

    @Says(promise = 7, words = "BAD.")
    static void satOfALiteralWithoutVariables() {
        PlanClauses x = new PlanClauses();
        Due.is(x.sat(1), BAD);
        Due.is(x.sat(-1), BAD);
    }

    @Says(promise = 7, words = "BAD.")
    static void satBadWithoutAModel() {
        PlanClauses x = Tell.withVariables(3);
        x.clause();
        Due.is(x.sat(4), BAD);
        Due.is(x.sat(-4), BAD);
        Due.is(x.sat(3), 0);
    }

    // ---- Promise 8: value

    @Says(promise = 8, words = "The truth of a VARIABLE in the first MODEL")
    static void valueOfTheFirstAndLastVariable() {
        PlanClauses x = Tell.withVariables(30);
        Due.is(x.value(1), 0);
        Due.is(x.value(30), 0);
        Tell.clause(x, 1, 30);
        Due.is(x.value(1), 0);
        Due.is(x.value(30), 1);
        Tell.clause(x, 1, -30);
        Due.is(x.value(1), 1);
        Due.is(x.value(30), 0);
    }

    @Says(promise = 8, words = "The truth of a VARIABLE in the first MODEL")
    static void valueInTheOnlyModel() {
        PlanClauses x = Tell.withVariables(3);
        Tell.clause(x, 1);
        Tell.clause(x, -2);
        Tell.clause(x, 3);
        Due.is(x.value(1), 1);
        Due.is(x.value(2), 0);
        Due.is(x.value(3), 1);
    }

    @Says(promise = 8, words = "NONE: there is none.")
    static void valueWithoutAModel() {
        PlanClauses x = Tell.withVariables(3);
        Tell.clause(x, 3);
        Tell.clause(x, -3);
        Due.is(x.value(1), NONE);
        Due.is(x.value(3), NONE);
        x.drop();
        Due.is(x.value(3), 1);
        x.clause();
        Due.is(x.value(3), NONE);
    }

    @Says(promise = 8, words = "BAD.")
    static void valueOfNoVariable() {
        PlanClauses x = Tell.withVariables(3);
        Due.is(x.value(0), BAD);
        Due.is(x.value(-1), BAD);
        Due.is(x.value(-3), BAD);
        Due.is(x.value(4), BAD);
        PlanClauses y = Tell.withVariables(30);
        Due.is(y.value(31), BAD);
        Due.is(y.value(-30), BAD);
    }

    @Says(promise = 8, words = "BAD.")
    static void valueLeastAndGreatestInt() {
        PlanClauses x = Tell.withVariables(30);
        Due.is(x.value(LEAST), BAD);
        Due.is(x.value(LEAST + 1), BAD);
        Due.is(x.value(MOST), BAD);
        Due.is(x.value(33), BAD);
    }

    @Says(promise = 8, words = "BAD.")
    static void valueWithoutVariables() {
        PlanClauses x = new PlanClauses();
        Due.is(x.value(0), BAD);
        Due.is(x.value(1), BAD);
    }

    @Says(promise = 8, words = "BAD.")
    static void valueBadWithoutAModel() {
        PlanClauses x = Tell.withVariables(3);
        x.clause();
        Due.is(x.value(4), BAD);
        Due.is(x.value(0), BAD);
        Due.is(x.value(3), NONE);
    }

    // ---- Promise 9: model

    @Says(promise = 9, words = "The truth of a VARIABLE in the i-th MODEL (0 .. 59, from the least on)")
    static void modelFirst() {
        PlanClauses x = Tell.withVariables(30);
        Tell.clause(x, 1, 30);
        Due.is(x.model(0, 1), 0);
        Due.is(x.model(0, 30), 1);
        Due.is(x.model(1, 29), 1);
        Due.is(x.model(1, 30), 1);
    }

    /** 59 is 111011. */
    @Says(promise = 9, words = "The truth of a VARIABLE in the i-th MODEL (0 .. 59, from the least on)")
    static void modelSixtiethOfMore() {
        PlanClauses x = Tell.withVariables(30);
        int[] due = {0, 1, 1, 1, 0, 1, 1};
        for (int v = 24; v <= 30; v++) {
            Due.is(x.model(59, v), due[v - 24]);
        }
        Due.is(x.model(59, 1), 0);
        Due.is(x.model(60, 30), BAD);
    }

    @Says(promise = 9, words = "The truth of a VARIABLE in the i-th MODEL (0 .. 59, from the least on)")
    static void modelSixtiethOfSixty() {
        PlanClauses x = withoutFirstRows(4);
        for (int v = 1; v <= 6; v++) {
            Due.is(x.model(59, v), 1);
            Due.is(x.model(0, v), v == 4 ? 1 : 0);
        }
        Due.is(x.model(60, 1), BAD);
    }

    @Says(promise = 9, words = "The truth of a VARIABLE in the i-th MODEL (0 .. 59, from the least on)")
    static void modelSixtiethOfSixtyOne() {
        PlanClauses x = withoutFirstRows(3);
        for (int v = 1; v <= 6; v++) {
            Due.is(x.model(59, v), v == 6 ? 0 : 1);
        }
        Due.is(x.model(60, 1), BAD);
    }

    /** All 64 rows of 6 variables but the first ones. */
    private static PlanClauses withoutFirstRows(int many) {
        PlanClauses x = Tell.withVariables(6);
        for (int row = 0; row < many; row++) {
            Tell.notRow(x, row, 6);
        }
        return x;
    }

    @Says(promise = 9, words = "from the least on")
    static void modelAllInOrder() {
        PlanClauses x = Tell.withVariables(3);
        Tell.notRow(x, 2, 3);
        Tell.notRow(x, 5, 3);
        int[] due = {0, 1, 3, 4, 6, 7};
        for (int i = 5; i >= 0; i--) {
            for (int v = 1; v <= 3; v++) {
                Due.is(x.model(i, v), due[i] >> (3 - v) & 1);
            }
        }
    }

    @Says(promise = 9, words = "NONE: there are not so many.")
    static void modelSixtiethOfFiftyNine() {
        PlanClauses x = withoutFirstRows(5);
        Due.is(x.model(59, 1), NONE);
        for (int v = 1; v <= 6; v++) {
            Due.is(x.model(58, v), 1);
        }
    }

    @Says(promise = 9, words = "NONE: there are not so many.")
    static void modelOneBehindTheLast() {
        PlanClauses x = Tell.withVariables(2);
        Tell.clause(x, 1, 2);
        Due.is(x.model(2, 2), 1);
        Due.is(x.model(3, 1), NONE);
        Due.is(x.model(59, 2), NONE);
        Tell.clause(x, -1);
        Due.is(x.model(0, 2), 1);
        Due.is(x.model(1, 2), NONE);
    }

    @Says(promise = 9, words = "NONE: there are not so many.")
    static void modelOfNone() {
        PlanClauses x = Tell.withVariables(2);
        x.clause();
        Due.is(x.model(0, 1), NONE);
        Due.is(x.model(0, 2), NONE);
        Due.is(x.model(59, 1), NONE);
    }

    @Says(promise = 9, words = "BAD.")
    static void modelBelowAndBeyond() {
        PlanClauses x = Tell.withVariables(30);
        Due.is(x.model(-1, 1), BAD);
        Due.is(x.model(60, 1), BAD);
        Due.is(x.model(61, 30), BAD);
        Due.is(x.model(59, 30), 1);
        Due.is(x.model(60, 1), BAD);
    }

    @Says(promise = 9, words = "BAD.")
    static void modelLeastAndGreatestInt() {
        PlanClauses x = Tell.withVariables(30);
        Due.is(x.model(LEAST, 1), BAD);
        Due.is(x.model(MOST, 1), BAD);
        Due.is(x.model(0, LEAST), BAD);
        Due.is(x.model(0, LEAST + 1), BAD);
        Due.is(x.model(0, MOST), BAD);
        Due.is(x.model(0, 33), BAD);
    }

    @Says(promise = 9, words = "BAD.")
    static void modelOfNoVariable() {
        PlanClauses x = Tell.withVariables(3);
        Due.is(x.model(0, 0), BAD);
        Due.is(x.model(0, -1), BAD);
        Due.is(x.model(0, 4), BAD);
        Due.is(x.model(0, 3), 0);
        PlanClauses y = Tell.withVariables(30);
        Due.is(y.model(59, 31), BAD);
        Due.is(y.model(59, 0), BAD);
    }

    @Says(promise = 9, words = "BAD.")
    static void modelWithoutVariables() {
        PlanClauses x = new PlanClauses();
        Due.is(x.model(0, 0), BAD);
        Due.is(x.model(0, 1), BAD);
    }

    @Says(promise = 9, words = "BAD.")
    static void modelBadWhereThereAreNotSoMany() {
        PlanClauses x = Tell.withVariables(3);
        x.clause();
        Due.is(x.model(60, 1), BAD);
        Due.is(x.model(-1, 1), BAD);
        Due.is(x.model(0, 4), BAD);
        Due.is(x.model(59, 0), BAD);
    }

    // ---- Promise 10: models

    @Says(promise = 10, words = "How many MODELS there are")
    static void modelsNone() {
        PlanClauses x = Tell.withVariables(30);
        x.clause();
        Due.is(x.models(), 0);
        PlanClauses y = Tell.withVariables(1);
        Tell.clause(y, 1);
        Tell.clause(y, -1);
        Due.is(y.models(), 0);
    }

    @Says(promise = 10, words = "How many MODELS there are")
    static void modelsOne() {
        PlanClauses x = Tell.withVariables(2);
        Tell.clause(x, -1);
        Tell.clause(x, 2);
        Due.is(x.models(), 1);
    }

    @Says(promise = 10, words = "How many MODELS there are")
    static void modelsWithoutVariables() {
        PlanClauses x = new PlanClauses();
        Due.is(x.models(), 1);
        x.clause();
        Due.is(x.models(), 0);
        x.drop();
        Due.is(x.models(), 1);
    }

    @Says(promise = 10, words = "How many MODELS there are")
    static void modelsOfAllRows() {
        for (int n = 0; n <= 5; n++) {
            Due.is(Tell.withVariables(n).models(), 1 << n);
        }
    }

    @Says(promise = 10, words = "60 at most.")
    static void modelsFiftyNine() {
        Due.is(withoutFirstRows(5).models(), 59);
    }

    @Says(promise = 10, words = "60 at most.")
    static void modelsSixty() {
        Due.is(withoutFirstRows(4).models(), 60);
    }

    @Says(promise = 10, words = "60 at most.")
    static void modelsSixtyOne() {
        Due.is(withoutFirstRows(3).models(), 60);
        Due.is(withoutFirstRows(0).models(), 60);
    }

    @Says(promise = 10, words = "60 at most.")
    static void modelsOfThirtyVariables() {
        PlanClauses x = Tell.withVariables(30);
        Due.is(x.models(), 60);
        Tell.clause(x, 1);
        Due.is(x.models(), 60);
    }

    // ---- Promise 11: forced

    @Says(promise = 11, words = "Whether all MODELS have a VARIABLE with one truth: that truth")
    static void forcedFirstAndLastVariable() {
        PlanClauses x = Tell.withVariables(30);
        Tell.clause(x, 1);
        Tell.clause(x, -30);
        Due.is(x.forced(1), 1);
        Due.is(x.forced(30), 0);
        Due.is(x.forced(2), NONE);
        Due.is(x.forced(29), NONE);
    }

    @Says(promise = 11, words = "Whether all MODELS have a VARIABLE with one truth: that truth")
    static void forcedInTheOnlyModel() {
        PlanClauses x = Tell.withVariables(3);
        Tell.clause(x, 1);
        Tell.clause(x, -1, -2);
        Tell.clause(x, 2, 3);
        Due.is(x.models(), 1);
        Due.is(x.forced(1), 1);
        Due.is(x.forced(2), 0);
        Due.is(x.forced(3), 1);
    }

    /** The first 60 models have 1 with 0, and so many more; only those behind have it with 1. */
    @Says(promise = 11, words = "NONE: not,")
    static void forcedNotThoughTheFirstSixtyHaveIt() {
        PlanClauses x = Tell.withVariables(30);
        Due.is(x.models(), 60);
        Due.is(x.forced(1), NONE);
        PlanClauses y = Tell.withVariables(7);
        Tell.clause(y, -1, 2);
        Tell.clause(y, -1, 3);
        Tell.clause(y, -1, 4);
        Tell.clause(y, -1, 5);
        Tell.clause(y, -1, 6);
        Tell.clause(y, -1, 7);
        Due.is(y.models(), 60);
        Due.is(y.forced(1), NONE);
        Tell.clause(y, -1, -7);
        Due.is(y.models(), 60);
        Due.is(y.forced(1), 0);
    }

    @Says(promise = 11, words = "NONE: not,")
    static void forcedNotByOneModel() {
        PlanClauses x = Tell.withVariables(2);
        Tell.clause(x, 1, 2);
        Due.is(x.forced(1), NONE);
        Due.is(x.forced(2), NONE);
    }

    @Says(promise = 11, words = "or there are none.")
    static void forcedWithoutAModel() {
        PlanClauses x = Tell.withVariables(2);
        Tell.clause(x, 1);
        Due.is(x.forced(1), 1);
        Tell.clause(x, -1);
        Due.is(x.forced(1), NONE);
        Due.is(x.forced(2), NONE);
        PlanClauses y = Tell.withVariables(1);
        y.clause();
        Due.is(y.forced(1), NONE);
    }

    @Says(promise = 11, words = "BAD.")
    static void forcedOfNoVariable() {
        PlanClauses x = Tell.withVariables(3);
        Due.is(x.forced(0), BAD);
        Due.is(x.forced(-1), BAD);
        Due.is(x.forced(-3), BAD);
        Due.is(x.forced(4), BAD);
        PlanClauses y = Tell.withVariables(30);
        Due.is(y.forced(31), BAD);
    }

    @Says(promise = 11, words = "BAD.")
    static void forcedLeastAndGreatestInt() {
        PlanClauses x = Tell.withVariables(30);
        Due.is(x.forced(LEAST), BAD);
        Due.is(x.forced(LEAST + 1), BAD);
        Due.is(x.forced(MOST), BAD);
        Due.is(x.forced(33), BAD);
    }

    @Says(promise = 11, words = "BAD.")
    static void forcedWithoutVariables() {
        PlanClauses x = new PlanClauses();
        Due.is(x.forced(0), BAD);
        Due.is(x.forced(1), BAD);
    }

    @Says(promise = 11, words = "BAD.")
    static void forcedBadWithoutAModel() {
        PlanClauses x = Tell.withVariables(3);
        x.clause();
        Due.is(x.forced(0), BAD);
        Due.is(x.forced(4), BAD);
    }

    // ---- Promise 12: culprit

    @Says(promise = 12, words = "The least number of a CLAUSE that, with all before it, has no MODEL")
    static void culpritFirst() {
        PlanClauses x = Tell.withVariables(2);
        x.clause();
        Due.is(x.culprit(), 0);
        Tell.clause(x, 1);
        x.clause();
        Due.is(x.culprit(), 0);
    }

    @Says(promise = 12, words = "The least number of a CLAUSE that, with all before it, has no MODEL")
    static void culpritLast() {
        PlanClauses x = Tell.withVariables(2);
        Tell.clause(x, 1);
        Tell.clause(x, 2);
        Tell.clause(x, -1, -2);
        Due.is(x.culprit(), 2);
    }

    @Says(promise = 12, words = "The least number of a CLAUSE that, with all before it, has no MODEL")
    static void culpritLeastOfMany() {
        for (int place = 0; place <= 20; place++) {
            PlanClauses x = Tell.withVariables(2);
            Tell.clausesOf(x, 2, place);
            x.clause();
            Tell.clausesOf(x, 2, 20 - place);
            x.clause();
            Due.is(x.culprit(), place);
        }
    }

    @Says(promise = 12, words = "The least number of a CLAUSE that, with all before it, has no MODEL")
    static void culpritOfFourHundred() {
        PlanClauses x = Tell.withVariables(1);
        Tell.clausesOf(x, 1, 100);
        Tell.clausesOfNone(x, 300);
        Due.is(x.culprit(), 100);
        Due.is(x.count(1), 400);
        PlanClauses y = new PlanClauses();
        Tell.clausesOfNone(y, 400);
        Due.is(y.culprit(), 0);
    }

    /** More clauses with literals cannot be told in 512 calls. */
    @Says(promise = 12, words = "The least number of a CLAUSE that, with all before it, has no MODEL")
    static void culpritBehindAsManyAsCanBe() {
        PlanClauses x = Tell.withVariables(30);
        Tell.clausesOf(x, -30, 254);
        Tell.clause(x, 30);
        Due.is(x.culprit(), 254);
    }

    @Says(promise = 12, words = "NONE: there is a MODEL of all.")
    static void culpritOfNoClauses() {
        PlanClauses x = new PlanClauses();
        Due.is(x.culprit(), NONE);
        x.variables(30);
        Due.is(x.culprit(), NONE);
    }

    @Says(promise = 12, words = "NONE: there is a MODEL of all.")
    static void culpritWithOneModel() {
        for (int row = 0; row < 4; row++) {
            PlanClauses x = Tell.withVariables(2);
            Tell.clause(x, row < 2 ? -1 : 1);
            Tell.clause(x, row % 2 == 0 ? -2 : 2);
            Due.is(x.culprit(), NONE);
            Due.is(x.models(), 1);
            Due.is(x.culprit(), NONE);
        }
    }

    @Says(promise = 12, words = "NONE: there is a MODEL of all.")
    static void culpritWhenItIsDropped() {
        PlanClauses x = Tell.withVariables(2);
        Tell.clause(x, 1);
        Tell.clause(x, -1);
        Tell.clause(x, 2);
        Due.is(x.culprit(), 1);
        x.drop();
        Due.is(x.culprit(), 1);
        x.drop();
        Due.is(x.culprit(), NONE);
    }
}
