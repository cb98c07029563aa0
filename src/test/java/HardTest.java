import java.util.ArrayList;
import java.util.Collections;
import java.util.List;
import java.util.Random;

/** Clauses on which trying row after row would not end in any useful time. */
final class HardTest {
    private HardTest() {
    }

    static void run() {
        coreBehindFreeVariables();
        pigeons();
        parities();
        sums();
        modelsFarApart();
        mostClauses();
    }

    /** What cannot be is all at the end, behind 27 variables that do not matter. */
    private static void coreBehindFreeVariables() {
        PlanClauses x = Tell.withVariables(30);
        Tell.clause(x, 1, 2);
        for (int row = 0; row < 8; row++) {
            Tell.clause(x, row % 2 == 0 ? 28 : -28, row / 2 % 2 == 0 ? 29 : -29, row / 4 == 0 ? 30 : -30);
        }
        Due.is("core: models", x.models(), 0);
        Due.is("core: culprit", x.culprit(), 8);
        x.drop();
        Due.is("core: models without the last", x.models(), 60);
        Due.is("core: forced", x.forced(30), 1);
        Due.is("core: first", x.value(2), 1);
        Due.is("core: sat", x.sat(-29), 0);
    }

    /** 6 pigeons do not go into 5 holes, 5 do in 120 ways. */
    private static void pigeons() {
        Random random = new Random(1);
        List<Integer> places = new ArrayList<>();
        for (int v = 0; v < 30; v++) {
            places.add(v);
        }
        for (int turn = 0; turn < 20; turn++) {
            int[] place = new int[30];
            for (int i = 0; i < 30; i++) {
                place[i] = places.get(i);
            }
            PlanClauses x = Tell.withVariables(30);
            Tell.pigeons(x, 6, 5, place);
            Due.is("pigeons: none", x.sat(0), 0);
            Due.is("pigeons: the last clause", x.culprit(), 80);
            x.drop();
            Due.is("pigeons: two in the last hole", x.sat(0), 1);
            Due.is("pigeons: the fifth and sixth", x.forced(1 + place[29]), 1);
            PlanClauses y = Tell.withVariables(30);
            Tell.pigeons(y, 5, 5, place);
            Due.is("pigeons: as many as holes", y.models(), 60);
            Collections.shuffle(places, random);
        }
    }

    /** A chain: each variable is the other than the one before; and one that closes it wrongly. */
    private static void parities() {
        PlanClauses x = Tell.withVariables(30);
        for (int v = 1; v < 30; v++) {
            Tell.parity(x, true, v, v + 1);
        }
        Due.is("chain: two models", x.models(), 2);
        Due.is("chain: second", x.model(1, 30), 0);
        Due.is("chain: no third", x.model(2, 30), PlanClauses.NONE);
        Tell.parity(x, false, 30, 1);
        Due.is("chain: none", x.models(), 0);
        Due.is("chain: the first of the two", x.culprit(), 59);
        for (int seed = 0; seed < 10; seed++) {
            PlanClauses y = Tell.withVariables(30);
            Random random = new Random(seed);
            for (int i = 0; i < 24; i++) {
                Tell.parity(y, random.nextBoolean(), fourOf30(random));
            }
            int models = y.models();
            Due.holds("parities: free variables double the models",
                models == 0 || models == 60 || Integer.bitCount(models) == 1);
            checkFirst(y, 4);
        }
    }

    private static int[] fourOf30(Random random) {
        int[] four = new int[4];
        for (int k = 0; k < 4; k++) {
            four[k] = 1 + (k * 7 + random.nextInt(7));
        }
        return four;
    }

    /** The first model makes all clauses true, and each truth 1 in it cannot be 0 with the same ahead of it; all clauses have one size. */
    private static void checkFirst(PlanClauses x, int size) {
        if (x.sat(0) == 0) {
            return;
        }
        int[] first = new int[31];
        for (int v = 1; v <= 30; v++) {
            first[v] = x.value(v);
        }
        for (int i = 0; i < x.count(1); i++) {
            boolean isTrue = false;
            for (int k = 0; k < size; k++) {
                int l = x.at(i, k);
                isTrue |= first[Math.abs(l)] == (l > 0 ? 1 : 0);
            }
            Due.holds("first model: clause " + i, isTrue);
        }
        int clauses = x.count(1);
        for (int v = 1; v <= 30 && x.count(1) < 400; v++) {
            if (first[v] == 1) {
                Due.is("first model: " + v + " cannot be 0", x.sat(-v), 0);
            }
            Tell.clause(x, first[v] == 1 ? v : -v);
        }
        for (int many = x.count(1) - clauses; many > 0; many--) {
            x.drop();
        }
    }

    /** Sums of 5 variables, even or odd: elimination tells at which of them no model is left. */
    private static void sums() {
        for (int seed = 0; seed < 8; seed++) {
            Random random = new Random(seed);
            int n = 20 + random.nextInt(11);
            PlanClauses x = Tell.withVariables(n);
            List<long[]> rows = new ArrayList<>();
            int clash = -1;
            for (int e = 0; e < 25; e++) {
                int[] five = fiveOf(n, random);
                boolean odd = random.nextBoolean();
                Tell.parity(x, odd, five);
                long bits = odd ? 1 : 0;
                for (int v : five) {
                    bits |= 1L << v;
                }
                if (clash < 0 && reduce(rows, bits) == 1) {
                    clash = e;
                }
            }
            long models = clash >= 0 ? 0 : Math.min(60, 1L << (n - rows.size()));
            Due.is("sums: models, seed " + seed, x.models(), models);
            int culprit = x.culprit();
            Due.is("sums: culprit, seed " + seed, culprit < 0 ? -1 : culprit / 16, clash);
            checkFirst(x, 5);
        }
    }

    /** What is left of a sum when the rows are taken from it; a new row if variables are left. */
    private static long reduce(List<long[]> rows, long bits) {
        for (long[] row : rows) {
            if ((bits & row[0]) != 0) {
                bits ^= row[1];
            }
        }
        if (bits > 1) {
            rows.add(new long[] {Long.highestOneBit(bits), bits});
        }
        return bits;
    }

    private static int[] fiveOf(int n, Random random) {
        List<Integer> all = new ArrayList<>();
        for (int v = 1; v <= n; v++) {
            all.add(v);
        }
        Collections.shuffle(all, random);
        int[] five = new int[5];
        for (int k = 0; k < 5; k++) {
            five[k] = all.get(k);
        }
        return five;
    }

    /** Models that differ in variables far from the last. */
    private static void modelsFarApart() {
        PlanClauses x = Tell.withVariables(30);
        for (int v = 6; v <= 30; v++) {
            Tell.clause(x, -(v - 5), v);
            Tell.clause(x, v - 5, -v);
        }
        Due.is("far apart: models", x.models(), 32);
        for (int i = 0; i < 32; i++) {
            for (int v = 1; v <= 30; v++) {
                Due.is("far apart: row " + i, x.model(i, v), i >> (4 - (v - 1) % 5) & 1);
            }
        }
    }

    /** As many clauses as there may be, of literals drawn by lot. */
    private static void mostClauses() {
        for (int seed = 0; seed < 20; seed++) {
            Random random = new Random(seed);
            PlanClauses x = Tell.withVariables(30);
            int size = 3 + seed % 4;
            for (int turn = 0; turn < 4000 && x.count(1) < 400 && x.sat(0) == 1; turn++) {
                int literal = 1 + random.nextInt(30);
                x.literal(random.nextBoolean() ? literal : -literal);
                if (x.count(2) == size) {
                    x.clause();
                }
            }
            int culprit = x.culprit();
            if (x.sat(0) == 0) {
                Due.is("by lot: the latest is the culprit", culprit, x.count(1) - 1);
                x.drop();
            }
            checkFirst(x, size);
        }
    }
}
