import java.util.ArrayList;
import java.util.Arrays;
import java.util.Collections;
import java.util.List;
import java.util.Random;

/**
 * Clauses on which trying row after row would not end in any useful time. Some of these objects get more
 * than 512 calls, beyond which the document leaves all answers free: only so can clauses be told that
 * need much learning. If the program is ever to make use of that freedom, those tests have to go.
 */
final class HardTest {
    private HardTest() {
    }

    static void run() {
        coreBehindFreeVariables();
        pigeons();
        parities();
        sums();
        modelsFarApart();
        mostClauses();
        chains();
        graphs();
        majorities();
        byTrying();
    }

    /** What cannot be is all at the end, behind 27 variables that do not matter. */
    private static void coreBehindFreeVariables() {
        PlanClauses x = Tell.withVariables(30);
        Tell.clause(x, 1, 2);
        for (int row = 0; row < 8; row++) {
            Tell.clause(x, row % 2 == 0 ? 28 : -28, row / 2 % 2 == 0 ? 29 : -29, row / 4 == 0 ? 30 : -30);
        }
        Due.is("core: models", x.models(), 0);
        Due.is("core: culprit", x.culprit(), 8);
        x.drop();
        Due.is("core: models without the last", x.models(), 60);
        Due.is("core: forced", x.forced(30), 1);
        Due.is("core: first", x.value(2), 1);
        Due.is("core: sat", x.sat(-29), 0);
    }

    /** 6 pigeons do not go into 5 holes, 5 do in 120 ways. */
    private static void pigeons() {
        Random random = new Random(1);
        List<Integer> places = new ArrayList<>();
        for (int v = 0; v < 30; v++) {
            places.add(v);
        }
        for (int turn = 0; turn < 20; turn++) {
            int[] place = new int[30];
            for (int i = 0; i < 30; i++) {
                place[i] = places.get(i);
            }
            PlanClauses x = Tell.withVariables(30);
            Tell.pigeons(x, 6, 5, place);
            Due.is("pigeons: none", x.sat(0), 0);
            Due.is("pigeons: the last clause", x.culprit(), 80);
            x.drop();
            Due.is("pigeons: two in the last hole", x.sat(0), 1);
            Due.is("pigeons: the fifth and sixth", x.forced(1 + place[29]), 1);
            PlanClauses y = Tell.withVariables(30);
            Tell.pigeons(y, 5, 5, place);
            Due.is("pigeons: as many as holes", y.models(), 60);
            Collections.shuffle(places, random);
        }
    }

    /** A chain: each variable is the other than the one before; and one that closes it wrongly. */
    private static void parities() {
        PlanClauses x = Tell.withVariables(30);
        for (int v = 1; v < 30; v++) {
            Tell.parity(x, true, v, v + 1);
        }
        Due.is("chain: two models", x.models(), 2);
        Due.is("chain: second", x.model(1, 30), 0);
        Due.is("chain: no third", x.model(2, 30), PlanClauses.NONE);
        Tell.parity(x, false, 30, 1);
        Due.is("chain: none", x.models(), 0);
        Due.is("chain: the first of the two", x.culprit(), 59);
        for (int seed = 0; seed < 10; seed++) {
            PlanClauses y = Tell.withVariables(30);
            Random random = new Random(seed);
            for (int i = 0; i < 24; i++) {
                Tell.parity(y, random.nextBoolean(), fourOf30(random));
            }
            int models = y.models();
            Due.holds("parities: free variables double the models",
                models == 0 || models == 60 || Integer.bitCount(models) == 1);
            checkFirst(y, 4);
        }
    }

    private static int[] fourOf30(Random random) {
        int[] four = new int[4];
        for (int k = 0; k < 4; k++) {
            four[k] = 1 + (k * 7 + random.nextInt(7));
        }
        return four;
    }

    /** The first model makes all clauses true, and each truth 1 in it cannot be 0 with the same ahead of it; all clauses have one size. */
    private static void checkFirst(PlanClauses x, int size) {
        if (x.sat(0) == 0) {
            return;
        }
        int[] first = new int[31];
        for (int v = 1; v <= 30; v++) {
            first[v] = x.value(v);
        }
        for (int i = 0; i < x.count(1); i++) {
            boolean isTrue = false;
            for (int k = 0; k < size; k++) {
                int l = x.at(i, k);
                isTrue |= first[Math.abs(l)] == (l > 0 ? 1 : 0);
            }
            Due.holds("first model: clause " + i, isTrue);
        }
        int clauses = x.count(1);
        for (int v = 1; v <= 30 && x.count(1) < 400; v++) {
            if (first[v] == 1) {
                Due.is("first model: " + v + " cannot be 0", x.sat(-v), 0);
            }
            Tell.clause(x, first[v] == 1 ? v : -v);
        }
        for (int many = x.count(1) - clauses; many > 0; many--) {
            x.drop();
        }
    }

    /** Sums of 5 variables, even or odd: elimination tells at which of them no model is left. */
    private static void sums() {
        for (int seed = 0; seed < 8; seed++) {
            Random random = new Random(seed);
            int n = 20 + random.nextInt(11);
            PlanClauses x = Tell.withVariables(n);
            List<long[]> rows = new ArrayList<>();
            int clash = -1;
            for (int e = 0; e < 25; e++) {
                int[] five = fiveOf(n, random);
                boolean odd = random.nextBoolean();
                Tell.parity(x, odd, five);
                long bits = odd ? 1 : 0;
                for (int v : five) {
                    bits |= 1L << v;
                }
                if (clash < 0 && reduce(rows, bits) == 1) {
                    clash = e;
                }
            }
            long models = clash >= 0 ? 0 : Math.min(60, 1L << (n - rows.size()));
            Due.is("sums: models, seed " + seed, x.models(), models);
            int culprit = x.culprit();
            Due.is("sums: culprit, seed " + seed, culprit < 0 ? -1 : culprit / 16, clash);
            checkFirst(x, 5);
        }
    }

    /** What is left of a sum when the rows are taken from it; a new row if variables are left. */
    private static long reduce(List<long[]> rows, long bits) {
        for (long[] row : rows) {
            if ((bits & row[0]) != 0) {
                bits ^= row[1];
            }
        }
        if (bits > 1) {
            rows.add(new long[] {Long.highestOneBit(bits), bits});
        }
        return bits;
    }

    private static int[] fiveOf(int n, Random random) {
        List<Integer> all = new ArrayList<>();
        for (int v = 1; v <= n; v++) {
            all.add(v);
        }
        Collections.shuffle(all, random);
        int[] five = new int[5];
        for (int k = 0; k < 5; k++) {
            five[k] = all.get(k);
        }
        return five;
    }

    /** Models that differ in variables far from the last. */
    private static void modelsFarApart() {
        PlanClauses x = Tell.withVariables(30);
        for (int v = 6; v <= 30; v++) {
            Tell.clause(x, -(v - 5), v);
            Tell.clause(x, v - 5, -v);
        }
        Due.is("far apart: models", x.models(), 32);
        for (int i = 0; i < 32; i++) {
            for (int v = 1; v <= 30; v++) {
                Due.is("far apart: row " + i, x.model(i, v), i >> (4 - (v - 1) % 5) & 1);
            }
        }
    }

    /** As many clauses as there may be, of literals drawn by lot. */
    private static void mostClauses() {
        for (int seed = 0; seed < 20; seed++) {
            Random random = new Random(seed);
            PlanClauses x = Tell.withVariables(30);
            int size = 3 + seed % 4;
            for (int turn = 0; turn < 4000 && x.count(1) < 400 && x.sat(0) == 1; turn++) {
                int literal = 1 + random.nextInt(30);
                x.literal(random.nextBoolean() ? literal : -literal);
                if (x.count(2) == size) {
                    x.clause();
                }
            }
            int culprit = x.culprit();
            if (x.sat(0) == 0) {
                Due.is("by lot: the latest is the culprit", culprit, x.count(1) - 1);
                x.drop();
            }
            checkFirst(x, size);
        }
    }

    /**
     * Groups of variables between links: whatever truths a group has, the link ahead of it calls for
     * the one behind it; the first and the last are one, and cannot be. The variables are numbered by
     * lot, but for the first turns, in which the links are the last, the first ones.
     */
    private static void chains() {
        int[][] groups = {{3, 3, 3, 4, 4, 3}, {3, 3, 3, 4, 4, 3}, {4, 4, 4, 3}, {2, 3, 2, 3, 2, 3, 2}, {4, 4, 4, 4}, {3, 3, 3, 3, 3, 3}};
        for (int turn = 0; turn < 60; turn++) {
            Random random = new Random(turn);
            int[] sizes = groups[turn % groups.length];
            int[] numbers = numbersOf30(turn, random);
            List<int[]> clauses = chain(sizes, numbers);
            int[] missing = clauses.get(0);
            if (turn > 1) {
                Collections.shuffle(clauses, random);
            }
            PlanClauses x = Tell.withVariables(30);
            for (int[] clause : clauses) {
                Tell.clause(x, clause);
            }
            Due.is("chain " + turn + ": sat", x.sat(0), 0);
            Due.is("chain " + turn + ": culprit", x.culprit(), clauses.size() - 1);
            Due.is("chain " + turn + ": models", x.models(), 0);
            Due.is("chain " + turn + ": forced", x.forced(30), PlanClauses.NONE);
            PlanClauses y = Tell.withVariables(30);
            for (int[] clause : clauses) {
                if (clause != missing) {
                    Tell.clause(y, clause);
                }
            }
            checkOpenChain("open chain " + turn + ": ", y, sizes, numbers, missing);
        }
    }

    private static int[] numbersOf30(int turn, Random random) {
        List<Integer> all = new ArrayList<>();
        for (int v = 1; v <= 30; v++) {
            all.add(turn == 1 ? 31 - v : v);
        }
        if (turn > 1) {
            Collections.shuffle(all, random);
        }
        int[] numbers = new int[31];
        for (int v = 1; v <= 30; v++) {
            numbers[v] = all.get(v - 1) * (turn > 1 && random.nextBoolean() ? -1 : 1);
        }
        return numbers;
    }

    /** Group variables first, then the links; the first clause is the one of the first group's truths 1. */
    private static List<int[]> chain(int[] sizes, int[] numbers) {
        List<int[]> clauses = new ArrayList<>();
        int grouped = 0;
        for (int size : sizes) {
            grouped += size;
        }
        int first = 0;
        for (int g = 0; g < sizes.length; g++) {
            for (int row = 0; row < 1 << sizes[g]; row++) {
                int[] clause = new int[sizes[g] + 2];
                for (int k = 0; k < sizes[g]; k++) {
                    int number = numbers[first + 1 + k];
                    clause[k] = (row >> k & 1) == 0 ? -number : number;
                }
                int link = numbers[grouped + 1 + g];
                clause[sizes[g]] = g == 0 ? link : -link;
                clause[sizes[g] + 1] = numbers[grouped + 1 + (g + 1) % sizes.length];
                clauses.add(clause);
            }
            first += sizes[g];
        }
        int link = numbers[grouped + 1];
        clauses.add(new int[] {numbers[first], -link});
        clauses.add(new int[] {-numbers[first], -link});
        return clauses;
    }

    /** Without one clause, the first group has that clause's truths the other way, all links are 0, the others are free. */
    private static void checkOpenChain(String run, PlanClauses x, int[] sizes, int[] numbers, int[] missing) {
        int grouped = 0;
        for (int size : sizes) {
            grouped += size;
        }
        int[] due = new int[31];
        Arrays.fill(due, PlanClauses.NONE);
        for (int k = 0; k < sizes[0]; k++) {
            due[Math.abs(missing[k])] = missing[k] > 0 ? 0 : 1;
        }
        for (int link = grouped + 1; link <= grouped + sizes.length; link++) {
            due[Math.abs(numbers[link])] = numbers[link] > 0 ? 0 : 1;
        }
        Due.is(run + "sat", x.sat(0), 1);
        Due.is(run + "culprit", x.culprit(), PlanClauses.NONE);
        int free = 0;
        for (int v = 30; v >= 1; v--) {
            Due.is(run + "forced " + v, x.forced(v), due[v]);
            Due.is(run + "sat " + v, x.sat(v), due[v] == 0 ? 0 : 1);
            Due.is(run + "sat -" + v, x.sat(-v), due[v] == 1 ? 0 : 1);
            Due.is(run + "value " + v, x.value(v), due[v] == 1 ? 1 : 0);
            for (int i = 0; i < 60; i++) {
                int truth = due[v] == PlanClauses.NONE ? (free < 6 ? i >> free & 1 : 0) : due[v];
                Due.is(run + "model " + i + ", " + v, x.model(i, v), truth);
            }
            free += due[v] == PlanClauses.NONE ? 1 : 0;
        }
        Due.is(run + "models", x.models(), 60);
    }

    /**
     * The edges of a graph are variables; an even number of them is true at each corner, but for one:
     * as each edge has two ends, that cannot be, and each clause is needed for it.
     */
    private static void graphs() {
        for (int turn = 0; turn < 12; turn++) {
            Random random = new Random(turn);
            int corners = turn % 3 == 0 ? 20 : turn % 3 == 1 ? 15 : 12;
            int edgesEach = 60 / corners;
            int[] numbers = numbersOf30(turn + 2, random);
            List<int[]> ends = ring(corners, edgesEach, random);
            PlanClauses x = Tell.withVariables(30);
            for (int corner = 0; corner < corners; corner++) {
                List<Integer> here = new ArrayList<>();
                for (int e = 0; e < ends.size(); e++) {
                    if (ends.get(e)[0] == corner || ends.get(e)[1] == corner) {
                        here.add(Math.abs(numbers[e + 1]));
                    }
                }
                int[] variables = new int[here.size()];
                for (int k = 0; k < variables.length; k++) {
                    variables[k] = here.get(k);
                }
                Tell.parity(x, corner == turn, variables);
            }
            Due.is("graph " + turn + ": none", x.sat(0), 0);
            Due.is("graph " + turn + ": all are needed", x.culprit(), x.count(1) - 1);
            x.drop();
            Due.is("graph " + turn + ": without the last", x.sat(0), 1);
            Due.is("graph " + turn + ": many", x.models(), 60);
        }
    }

    /** A graph in which each corner has so many edges: a ring, and its corners paired by lot, no two twice. */
    private static List<int[]> ring(int corners, int edgesEach, Random random) {
        for (int attempt = 0; attempt < 1000000; attempt++) {
            List<Integer> loose = new ArrayList<>();
            List<int[]> ends = new ArrayList<>();
            boolean[] joined = new boolean[corners * corners];
            for (int corner = 0; corner < corners; corner++) {
                join(corner, (corner + 1) % corners, corners, joined, ends);
                for (int k = 2; k < edgesEach; k++) {
                    loose.add(corner);
                }
            }
            Collections.shuffle(loose, random);
            boolean fits = true;
            for (int i = 0; i + 1 < loose.size() && fits; i += 2) {
                fits = join(loose.get(i), loose.get(i + 1), corners, joined, ends);
            }
            if (fits) {
                return ends;
            }
        }
        throw new IllegalStateException("no such graph");
    }

    private static boolean join(int one, int other, int corners, boolean[] joined, List<int[]> ends) {
        int place = Math.min(one, other) * corners + Math.max(one, other);
        if (one == other || joined[place]) {
            return false;
        }
        joined[place] = true;
        ends.add(new int[] {one, other});
        return true;
    }

    /** Of 28 places, 4 in each of 7 rows and 7 columns, at least 2 in each row are 1, at least 2 in each column 0. */
    private static void majorities() {
        for (int turn = 0; turn < 6; turn++) {
            int[] numbers = numbersOf30(turn + 2, new Random(turn));
            PlanClauses x = Tell.withVariables(30);
            for (int line = 0; line < 14; line++) {
                int[] four = new int[4];
                for (int k = 0; k < 4; k++) {
                    int row = line < 7 ? line : (line - 7 + 7 - 2 * k * k % 7) % 7;
                    int place = line < 7 ? 4 * line + k : 4 * row + k;
                    four[k] = (line < 7 ? 1 : -1) * Math.abs(numbers[place + 1]);
                }
                for (int left = 0; left < 4; left++) {
                    Tell.clause(x, four[left], four[(left + 1) % 4], four[(left + 2) % 4]);
                }
            }
            Due.is("majorities " + turn + ": exactly half", x.sat(0), 1);
            checkFirst(x, 3);
            int[] first = {Math.abs(numbers[1]), Math.abs(numbers[2]), Math.abs(numbers[3]), Math.abs(numbers[4])};
            for (int left = 0; left < 4; left++) {
                for (int other = left + 1; other < 4; other++) {
                    Due.is("majorities " + turn + ": sat", x.sat(0), 1);
                    Tell.clause(x, first[left], first[other]);
                }
            }
            Due.is("majorities " + turn + ": three of a row", x.sat(0), 0);
            Due.is("majorities " + turn + ": culprit", x.culprit(), 61);
        }
    }

    /** Up to 17 variables: all rows are tried. */
    private static void byTrying() {
        for (int turn = 0; turn < 150; turn++) {
            Random random = new Random(turn);
            int n = 9 + random.nextInt(9);
            int size = 2 + random.nextInt(5);
            int[] most = {0, 0, 1, 4, 9, 18, 30};
            int many = Math.min(400, random.nextInt(n * most[size] + 20));
            PlanClauses x = Tell.withVariables(n);
            int[] trues = new int[many];
            int[] falses = new int[many];
            for (int i = 0; i < many; i++) {
                for (int k = 0; k < size; k++) {
                    int v = 1 + random.nextInt(n);
                    boolean isTrue = random.nextBoolean();
                    if (x.literal(isTrue ? v : -v) > 0) {
                        trues[i] |= isTrue ? 1 << (n - v) : 0;
                        falses[i] |= isTrue ? 0 : 1 << (n - v);
                    }
                }
                x.clause();
            }
            checkAgainstRows("turn " + turn + ": ", x, n, trues, falses);
        }
    }

    /** Rows are read as numbers, the first variable highest: so they are in order. */
    private static void checkAgainstRows(String run, PlanClauses x, int n, int[] trues, int[] falses) {
        int found = 0;
        int everTrue = 0;
        int everFalse = 0;
        int furthest = 0;
        for (int row = 0; row < 1 << n; row++) {
            int i = 0;
            while (i < trues.length && (row & trues[i] | ~row & falses[i]) != 0) {
                i++;
            }
            furthest = Math.max(furthest, i);
            if (i == trues.length) {
                for (int v = 1; v <= n && found < 60; v++) {
                    Due.is(run + "model " + found + ", " + v, x.model(found, v), row >> (n - v) & 1);
                }
                found++;
                everTrue |= row;
                everFalse |= ~row;
            }
        }
        Due.is(run + "sat", x.sat(0), found > 0 ? 1 : 0);
        Due.is(run + "models", x.models(), Math.min(60, found));
        Due.is(run + "culprit", x.culprit(), found > 0 ? PlanClauses.NONE : furthest);
        for (int v = 1; v <= n; v++) {
            int canBeTrue = everTrue >> (n - v) & 1;
            int canBeFalse = everFalse >> (n - v) & 1;
            Due.is(run + "sat " + v, x.sat(v), canBeTrue);
            Due.is(run + "sat -" + v, x.sat(-v), canBeFalse);
            Due.is(run + "forced " + v, x.forced(v), canBeTrue == canBeFalse ? PlanClauses.NONE : canBeTrue);
        }
    }
}
