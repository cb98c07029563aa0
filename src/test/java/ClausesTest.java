/** Promises 1 to 12, by hand. */
final class ClausesTest {
    private static final int BAD = PlanClauses.BAD, STATE = PlanClauses.STATE;
    private static final int FULL = PlanClauses.FULL, NONE = PlanClauses.NONE;
    private static final int LEAST = Integer.MIN_VALUE, MOST = Integer.MAX_VALUE;

    private ClausesTest() {
    }

    static void run() {
        newObject();
        variables();
        literal();
        clause();
        drop();
        at();
        sat();
        value();
        model();
        models();
        forced();
        culprit();
    }

    /** Promise 1. */
    private static void newObject() {
        PlanClauses x = new PlanClauses();
        for (int what = 0; what <= 6; what++) {
            Due.is("1: count of a new object " + what, x.count(what), 0);
        }
        Due.is("1: models", x.models(), 1);
        Due.is("1: at", x.at(0, 0), BAD);
        Due.is("1: value", x.value(1), BAD);
        Due.is("1: plan", x.plan(0), 1);
        Due.is("1: plans", x.plans(5), 1);
    }

    /** Promise 2. */
    private static void variables() {
        PlanClauses x = new PlanClauses();
        Due.is("2: below none", x.variables(-1), BAD);
        Due.is("2: one too many", x.variables(31), BAD);
        Due.is("2: far too few", x.variables(LEAST), BAD);
        Due.is("2: the most", x.variables(30), 0);
        Due.is("2: how many there were", x.variables(7), 30);
        x.literal(3);
        x.literal(-7);
        Due.is("2: refused, the draft stays", x.variables(31), BAD);
        Due.is("2: the draft", x.count(2), 2);
        Due.is("2: the same number", x.variables(7), 7);
        Due.is("2: the draft is empty", x.count(2), 0);
        Due.is("2: what was in it is free", x.literal(3), 1);
        x.clause();
        x.literal(1);
        Due.is("2: there are clauses", x.variables(7), STATE);
        Due.is("2: bad ahead of state", x.variables(-1), BAD);
        Due.is("2: nothing changed", x.count(0), 7);
        Due.is("2: the draft stays", x.count(2), 1);
        x.drop();
        Due.is("2: no clauses any more", x.variables(0), 7);
        Due.is("2: none", x.count(0), 0);
        Due.is("2: models of none", x.models(), 1);
        x.variables(2);
        Due.is("2: models are found anew", x.models(), 4);
    }

    /** Promise 3. */
    private static void literal() {
        PlanClauses x = Tell.withVariables(8);
        Due.is("3: no variable", x.literal(0), BAD);
        Due.is("3: beyond", x.literal(9), BAD);
        Due.is("3: beyond, not", x.literal(-9), BAD);
        Due.is("3: the least int", x.literal(LEAST), BAD);
        Due.is("3: the most int", x.literal(MOST), BAD);
        Due.is("3: first", x.literal(8), 1);
        Due.is("3: twice", x.literal(8), BAD);
        Due.is("3: the other way", x.literal(-8), BAD);
        Due.is("3: second", x.literal(-1), 2);
        Due.is("3: third", x.literal(3), 3);
        Due.is("3: fourth", x.literal(4), 4);
        Due.is("3: fifth", x.literal(-5), 5);
        Due.is("3: sixth", x.literal(6), 6);
        Due.is("3: bad ahead of full", x.literal(5), BAD);
        Due.is("3: full", x.literal(7), FULL);
        Due.is("3: it stays", x.count(2), 6);
        Due.is("3: it becomes a clause", x.clause(), 1);
        Due.is("3: the sixth of it", x.at(0, 5), 6);
        Due.is("3: the next draft", x.literal(8), 1);
    }

    /** Promise 4. */
    private static void clause() {
        PlanClauses x = Tell.withVariables(3);
        x.literal(2);
        Due.is("4: first", x.clause(), 1);
        Due.is("4: the draft is empty", x.count(2), 0);
        Due.is("4: of none", x.clause(), 2);
        Due.is("4: of none has no literal", x.at(1, 0), NONE);
        Due.is("4: of none is not true", x.sat(0), 0);
        for (int many = 3; many <= 400; many++) {
            Due.is("4: so many", x.clause(), many);
        }
        x.literal(1);
        Due.is("4: one too many", x.clause(), FULL);
        Due.is("4: the draft stays", x.count(2), 1);
        Due.is("4: the clauses stay", x.count(1), 400);
        x.drop();
        Due.is("4: there is room again", x.clause(), 400);
        Due.is("4: the last one", x.at(399, 0), 1);
        Due.is("4: no model, found in the first of none", x.culprit(), 1);
    }

    /** Promise 5. */
    private static void drop() {
        PlanClauses x = Tell.withVariables(2);
        Due.is("5: none", x.drop(), STATE);
        Tell.clause(x, 1);
        Tell.clause(x, -1);
        Due.is("5: no model", x.sat(0), 0);
        x.literal(2);
        Due.is("5: one left", x.drop(), 1);
        Due.is("5: the draft stays", x.count(2), 1);
        Due.is("5: a model again", x.sat(0), 1);
        Due.is("5: the latest is gone", x.at(1, 0), BAD);
        Due.is("5: the first is there", x.at(0, 0), 1);
        Due.is("5: none left", x.drop(), 0);
        Due.is("5: none", x.drop(), STATE);
        Due.is("5: all rows are models", x.models(), 4);
    }

    /** Promise 6. */
    private static void at() {
        PlanClauses x = Tell.withVariables(30);
        Tell.clause(x, 30, -2, 7);
        Tell.clause(x, -30);
        Due.is("6: first", x.at(0, 0), 30);
        Due.is("6: second", x.at(0, 1), -2);
        Due.is("6: third", x.at(0, 2), 7);
        Due.is("6: not so many", x.at(0, 3), NONE);
        Due.is("6: far from so many", x.at(0, MOST), NONE);
        Due.is("6: of the next", x.at(1, 0), -30);
        Due.is("6: not so many of the next", x.at(1, 1), NONE);
        Due.is("6: no clause", x.at(2, 0), BAD);
        Due.is("6: below", x.at(-1, 0), BAD);
        Due.is("6: k below 0", x.at(0, -1), BAD);
        Due.is("6: both", x.at(LEAST, LEAST), BAD);
        x.drop();
        x.clause();
        Due.is("6: nothing of the dropped one", x.at(1, 0), NONE);
    }

    /** Promise 7. */
    private static void sat() {
        PlanClauses x = Tell.withVariables(3);
        Due.is("7: none has to", x.sat(0), 1);
        Due.is("7: beyond", x.sat(4), BAD);
        Due.is("7: beyond, not", x.sat(-4), BAD);
        Due.is("7: the least int", x.sat(LEAST), BAD);
        Tell.clause(x, 1, 2);
        Tell.clause(x, -1, 3);
        Tell.clause(x, -3);
        Due.is("7: none has to", x.sat(0), 1);
        Due.is("7: 1", x.sat(1), 0);
        Due.is("7: not 1", x.sat(-1), 1);
        Due.is("7: 2", x.sat(2), 1);
        Due.is("7: not 2", x.sat(-2), 0);
        Due.is("7: asking changes nothing", x.models(), 1);
        Tell.clause(x, -2);
        Due.is("7: no model", x.sat(0), 0);
        Due.is("7: no model with 2", x.sat(2), 0);
        Due.is("7: bad without a model, too", x.sat(4), BAD);
    }

    /** Promise 8. */
    private static void value() {
        PlanClauses x = Tell.withVariables(4);
        Due.is("8: below", x.value(0), BAD);
        Due.is("8: a literal", x.value(-1), BAD);
        Due.is("8: beyond", x.value(5), BAD);
        for (int v = 1; v <= 4; v++) {
            Due.is("8: the least row", x.value(v), 0);
        }
        Tell.clause(x, 1, 2);
        Tell.clause(x, 3, 4);
        Due.is("8: 0 at the first that differs", x.value(1), 0);
        Due.is("8: so 1 at the second", x.value(2), 1);
        Due.is("8: 0", x.value(3), 0);
        Due.is("8: 1", x.value(4), 1);
        Tell.clause(x, -4);
        Due.is("8: found anew", x.value(3), 1);
        Due.is("8: found anew", x.value(4), 0);
        x.clause();
        Due.is("8: there is none", x.value(1), NONE);
        Due.is("8: bad without a model, too", x.value(5), BAD);
    }

    /** Promise 9. */
    private static void model() {
        PlanClauses x = Tell.withVariables(7);
        for (int i = 0; i < 60; i++) {
            for (int v = 1; v <= 7; v++) {
                Due.is("9: row " + i + " of all", x.model(i, v), i >> (7 - v) & 1);
            }
        }
        Due.is("9: the 60-th", x.model(60, 1), BAD);
        Due.is("9: below", x.model(-1, 1), BAD);
        Due.is("9: no variable", x.model(0, 0), BAD);
        Due.is("9: a literal", x.model(0, -1), BAD);
        Due.is("9: beyond", x.model(0, 8), BAD);
        Tell.clause(x, -1);
        Tell.clause(x, -2);
        Tell.clause(x, 3, 4);
        Tell.clause(x, 5);
        Tell.clause(x, -6, -7);
        int[] due = {4, 5, 6};
        for (int i = 0; i < 9; i++) {
            int row = (i / 3 + 1) * 8 + due[i % 3];
            for (int v = 1; v <= 7; v++) {
                Due.is("9: row " + i, x.model(i, v), row >> (7 - v) & 1);
            }
        }
        Due.is("9: not so many", x.model(9, 1), NONE);
        Due.is("9: not so many", x.model(59, 7), NONE);
        Due.is("9: bad ahead of none", x.model(59, 8), BAD);
    }

    /** Promise 10. */
    private static void models() {
        for (int n = 0; n <= 30; n++) {
            PlanClauses x = Tell.withVariables(n);
            Due.is("10: all rows of " + n, x.models(), n < 6 ? 1 << n : 60);
        }
        PlanClauses x = Tell.withVariables(6);
        Tell.clause(x, 1, 2, 3, 4, 5, 6);
        Due.is("10: 63 are 60", x.models(), 60);
        Tell.clause(x, -1, -2, -3, -4);
        Due.is("10: 59", x.models(), 59);
        x.clause();
        Due.is("10: none", x.models(), 0);
        x.drop();
        Due.is("10: 59 again", x.models(), 59);
    }

    /** Promise 11. */
    private static void forced() {
        PlanClauses x = Tell.withVariables(30);
        Due.is("11: not", x.forced(30), NONE);
        Due.is("11: below", x.forced(0), BAD);
        Due.is("11: a literal", x.forced(-1), BAD);
        Due.is("11: beyond", x.forced(31), BAD);
        Tell.clause(x, 29, 30);
        Due.is("11: the first 60 have it, not all", x.forced(1), NONE);
        Tell.clause(x, -29, 30);
        Due.is("11: 30 in either way", x.forced(30), 1);
        Due.is("11: 29 is free", x.forced(29), NONE);
        Tell.clause(x, -30, -29);
        Due.is("11: not 29", x.forced(29), 0);
        Tell.clause(x, 1, 29);
        Due.is("11: 1", x.forced(1), 1);
        Tell.clause(x, -1);
        Due.is("11: no model", x.forced(1), NONE);
        Due.is("11: bad without a model, too", x.forced(31), BAD);
    }

    /** Promise 12. */
    private static void culprit() {
        PlanClauses x = Tell.withVariables(3);
        Due.is("12: no clauses", x.culprit(), NONE);
        Tell.clause(x, 1, 2);
        Tell.clause(x, 1, -2);
        Tell.clause(x, 3);
        Due.is("12: a model of all", x.culprit(), NONE);
        Tell.clause(x, -1, 2);
        Due.is("12: still", x.culprit(), NONE);
        Tell.clause(x, -1, -2);
        Due.is("12: the fifth", x.culprit(), 4);
        Tell.clause(x, -3);
        Due.is("12: the least", x.culprit(), 4);
        Due.is("12: the clauses stay", x.count(1), 6);
        x.drop();
        x.drop();
        Tell.clause(x, -3);
        Due.is("12: another fifth", x.culprit(), 4);
        PlanClauses y = Tell.withVariables(0);
        y.clause();
        Due.is("12: of none", y.culprit(), 0);
        Due.is("12: no variables, no models", y.models(), 0);
    }
}
