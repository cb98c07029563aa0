/** Short ways to tell an object clauses and tasks. */
final class Tell {
    private Tell() {
    }

    static PlanClauses withVariables(int n) {
        PlanClauses x = new PlanClauses();
        x.variables(n);
        return x;
    }

    static PlanClauses withFacts(int n) {
        PlanClauses x = new PlanClauses();
        x.facts(n);
        return x;
    }

    static void draft(PlanClauses x, int... literals) {
        for (int literal : literals) {
            Due.holds("literal " + literal + " is taken", x.literal(literal) > 0);
        }
    }

    static void clause(PlanClauses x, int... literals) {
        draft(x, literals);
        Due.holds("the clause is taken", x.clause() > 0);
    }

    /** So many clauses of one literal each. */
    static void clausesOf(PlanClauses x, int literal, int many) {
        for (int i = 0; i < many; i++) {
            clause(x, literal);
        }
    }

    /** So many clauses of none. */
    static void clausesOfNone(PlanClauses x, int many) {
        for (int i = 0; i < many; i++) {
            clause(x);
        }
    }

    /** The clause that one row of truths, read as a number, the last variable lowest, makes false. */
    static void notRow(PlanClauses x, int row, int variables) {
        for (int v = 1; v <= variables; v++) {
            x.literal((row >> (variables - v) & 1) == 1 ? -v : v);
        }
        Due.holds("the clause is taken", x.clause() > 0);
    }

    /** So many actions that ask for nothing and change nothing. */
    static void idleActions(PlanClauses x, int many) {
        for (int a = 0; a < many; a++) {
            Due.holds("the action is taken", x.action(0, 0, 0) >= 0);
        }
    }

    /** All clauses that together say: an even (or odd) number of these variables is true. */
    static void parity(PlanClauses x, boolean odd, int... variables) {
        int rows = 1 << variables.length;
        for (int row = 0; row < rows; row++) {
            if ((Integer.bitCount(row) % 2 == 1) != odd) {
                int[] literals = new int[variables.length];
                for (int k = 0; k < literals.length; k++) {
                    literals[k] = (row >> k & 1) == 1 ? -variables[k] : variables[k];
                }
                clause(x, literals);
            }
        }
    }

    /** Each pigeon has a hole, no hole has two: variable 1 + place[pigeon * holes + hole]. */
    static void pigeons(PlanClauses x, int pigeons, int holes, int[] place) {
        for (int p = 0; p < pigeons; p++) {
            int[] anyHole = new int[holes];
            for (int h = 0; h < holes; h++) {
                anyHole[h] = 1 + place[p * holes + h];
            }
            clause(x, anyHole);
        }
        for (int h = 0; h < holes; h++) {
            for (int p = 0; p < pigeons; p++) {
                for (int q = p + 1; q < pigeons; q++) {
                    clause(x, -1 - place[p * holes + h], -1 - place[q * holes + h]);
                }
            }
        }
    }
}
