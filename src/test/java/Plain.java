import java.util.ArrayList;
import java.util.List;

/** The document's answers by trying every row of truths and every row of actions, for small numbers. */
final class Plain {
    static final int BAD = -1, STATE = -2, FULL = -3, NONE = -9, NOTHING = -7;

    private int width;
    private List<Integer> draft = new ArrayList<>();
    private final List<int[]> clauses = new ArrayList<>();
    private int facts;
    private final List<int[]> actions = new ArrayList<>();
    private int beginning;
    private int goal;

    int variables(int n) {
        if (n < 0 || n > 30) return BAD;
        if (!clauses.isEmpty()) return STATE;
        int before = width;
        width = n;
        draft.clear();
        return before;
    }

    int literal(int l) {
        if (l == 0 || Math.abs((long) l) > width || draft.contains(l) || draft.contains(-l)) return BAD;
        if (draft.size() == 6) return FULL;
        draft.add(l);
        return draft.size();
    }

    int clause() {
        if (clauses.size() == 400) return FULL;
        clauses.add(toArray(draft));
        draft.clear();
        return clauses.size();
    }

    int drop() {
        if (clauses.isEmpty()) return STATE;
        clauses.remove(clauses.size() - 1);
        return clauses.size();
    }

    int at(int i, int k) {
        if (i < 0 || i >= clauses.size() || k < 0) return BAD;
        int[] clause = clauses.get(i);
        return k < clause.length ? clause[k] : NONE;
    }

    int sat(int l) {
        if (Math.abs((long) l) > width) return BAD;
        for (int[] row : allModels(clauses.size())) {
            if (l == 0 || row[Math.abs(l)] == (l > 0 ? 1 : 0)) return 1;
        }
        return 0;
    }

    int value(int v) {
        return model(0, v);
    }

    int model(int i, int v) {
        if (i < 0 || i >= 60 || v < 1 || v > width) return BAD;
        List<int[]> all = allModels(clauses.size());
        return i < all.size() ? all.get(i)[v] : NONE;
    }

    int models() {
        return Math.min(60, allModels(clauses.size()).size());
    }

    int forced(int v) {
        if (v < 1 || v > width) return BAD;
        boolean[] seen = new boolean[2];
        for (int[] row : allModels(clauses.size())) seen[row[v]] = true;
        if (seen[0] == seen[1]) return NONE;
        return seen[1] ? 1 : 0;
    }

    int culprit() {
        for (int i = 0; i < clauses.size(); i++) {
            if (allModels(i + 1).isEmpty()) return i;
        }
        return NONE;
    }

    /** Truths at places 1 .. width, in order. */
    private List<int[]> allModels(int first) {
        List<int[]> found = new ArrayList<>();
        for (int number = 0; number < 1 << width; number++) {
            int[] row = new int[width + 1];
            for (int v = 1; v <= width; v++) row[v] = number >> (width - v) & 1;
            boolean holds = true;
            for (int i = 0; i < first && holds; i++) holds = isTrue(clauses.get(i), row);
            if (holds) found.add(row);
        }
        return found;
    }

    private static boolean isTrue(int[] clause, int[] row) {
        for (int l : clause) {
            if (row[Math.abs(l)] == (l > 0 ? 1 : 0)) return true;
        }
        return false;
    }

    int facts(int n) {
        if (n < 0 || n > 6) return BAD;
        int before = facts;
        facts = n;
        actions.clear();
        beginning = 0;
        goal = 0;
        return before;
    }

    private boolean noFacts(int bits) {
        return (bits & ~((1 << facts) - 1)) != 0;
    }

    int action(int asks, int adds, int takes) {
        if (noFacts(asks) || noFacts(adds) || noFacts(takes)) return BAD;
        if (actions.size() == 5) return FULL;
        actions.add(new int[] {asks, adds, takes & ~adds});
        return actions.size() - 1;
    }

    int set(int which, int bits) {
        if ((which != 0 && which != 1) || noFacts(bits)) return BAD;
        int before = which == 0 ? beginning : goal;
        if (which == 0) beginning = bits;
        else goal = bits;
        return before;
    }

    int plan(int t) {
        if (t < 0 || t > 5) return BAD;
        return allPlans(t).isEmpty() ? 0 : 1;
    }

    int step(int t, int i) {
        if (t < 0 || t > 5 || i < 0 || i >= t) return BAD;
        List<int[]> all = allPlans(t);
        return all.isEmpty() ? NONE : all.get(0)[i];
    }

    int state(int t, int i) {
        if (t < 0 || t > 5 || i < 0 || i > t) return BAD;
        List<int[]> all = allPlans(t);
        if (all.isEmpty()) return NONE;
        int now = beginning;
        for (int done = 0; done < i; done++) now = after(all.get(0)[done], now);
        return now;
    }

    int shortest() {
        for (int t = 0; t <= 5; t++) {
            if (!allPlans(t).isEmpty()) return t;
        }
        return NONE;
    }

    int plans(int t) {
        if (t < 0 || t > 5) return BAD;
        return Math.min(60, allPlans(t).size());
    }

    List<int[]> allPlans(int t) {
        List<int[]> found = new ArrayList<>();
        extend(new int[t], 0, beginning, found);
        return found;
    }

    private void extend(int[] row, int done, int now, List<int[]> found) {
        if (done == row.length) {
            if ((goal & ~now) == 0) found.add(row.clone());
            return;
        }
        for (int a = 0; a < actions.size(); a++) {
            if ((actions.get(a)[0] & ~now) == 0) {
                row[done] = a;
                extend(row, done + 1, after(a, now), found);
            }
        }
        row[done] = NOTHING;
        extend(row, done + 1, now, found);
    }

    private int after(int action, int now) {
        if (action == NOTHING) return now;
        return now & ~actions.get(action)[2] | actions.get(action)[1];
    }

    int code(int t, int what) {
        if (t < 0 || t > 5 || what < 0 || what > 2) return BAD;
        if (what == 0) return (t + 1) * facts + t * actions.size();
        List<int[]> told = allCode(t);
        int literals = 0;
        for (int[] clause : told) literals += clause.length;
        return what == 1 ? told.size() : literals;
    }

    int coded(int t, int i, int k) {
        if (t < 0 || t > 5 || i < 0 || k < 0) return BAD;
        List<int[]> told = allCode(t);
        if (i >= told.size()) return BAD;
        return k < told.get(i).length ? told.get(i)[k] : NONE;
    }

    List<int[]> allCode(int t) {
        List<int[]> told = new ArrayList<>();
        int count = actions.size();
        for (int f = 0; f < facts; f++) told.add(new int[] {(beginning >> f & 1) == 1 ? 1 + f : -1 - f});
        for (int f = 0; f < facts; f++) {
            if ((goal >> f & 1) == 1) told.add(new int[] {1 + t * facts + f});
        }
        for (int i = 0; i < t; i++) {
            int now = 1 + i * facts;
            int then = now + facts;
            int act = 1 + (t + 1) * facts + i * count;
            for (int a = 0; a < count; a++) {
                for (int f = 0; f < facts; f++) {
                    if ((actions.get(a)[0] >> f & 1) == 1) told.add(new int[] {-(act + a), now + f});
                }
            }
            for (int a = 0; a < count; a++) {
                for (int f = 0; f < facts; f++) {
                    if ((actions.get(a)[1] >> f & 1) == 1) told.add(new int[] {-(act + a), then + f});
                    if ((actions.get(a)[2] >> f & 1) == 1) told.add(new int[] {-(act + a), -(then + f)});
                }
            }
            for (int f = 0; f < facts; f++) {
                for (int part = 1; part <= 2; part++) {
                    List<Integer> clause = new ArrayList<>();
                    clause.add(part == 1 ? now + f : -(now + f));
                    clause.add(part == 1 ? -(then + f) : then + f);
                    for (int a = 0; a < count; a++) {
                        if ((actions.get(a)[part] >> f & 1) == 1) clause.add(act + a);
                    }
                    told.add(toArray(clause));
                }
            }
            for (int a = 0; a < count; a++) {
                for (int b = a + 1; b < count; b++) told.add(new int[] {-(act + a), -(act + b)});
            }
        }
        return told;
    }

    int count(int what) {
        int[] all = {width, clauses.size(), draft.size(), facts, actions.size(), beginning, goal};
        return what < 0 || what >= all.length ? BAD : all[what];
    }

    private static int[] toArray(List<Integer> list) {
        int[] row = new int[list.size()];
        for (int i = 0; i < row.length; i++) row[i] = list.get(i);
        return row;
    }
}
