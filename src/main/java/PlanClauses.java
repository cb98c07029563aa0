/**
 * Clauses and the rows of truths that make them all true; and plans of a few steps, which can also
 * be told as clauses.
 */
public final class PlanClauses {
    public static final int BAD = -1, STATE = -2, FULL = -3, NONE = -9;
    public static final int NOTHING = -7;

    private static final int MOST_VARIABLES = 30;
    private static final int MOST_CLAUSES = 400;
    private static final int MOST_LITERALS = 6;
    private static final int MOST_ANSWERS = 60;
    private static final int MOST_FACTS = 6;
    private static final int MOST_ACTIONS = 5;
    private static final int MOST_STEPS = 5;
    private static final int STATES = 1 << MOST_FACTS;

    /** A level of truths asked for, and a guess for each variable. */
    private static final int MOST_LEVELS = MOST_VARIABLES + 1;
    private static final int MOST_LEARNED = 2048;
    /**
     * No search comes near: a clash makes a conclusion of a guess. Written as a number of 30 digits, a
     * guess 0 and a conclusion 1, the trail only grows, so there are fewer than 2 to the 30th clashes,
     * and ahead of each one at most 32 rounds.
     */
    private static final long MOST_ROUNDS = 1L << 40;
    private static final int NO_MODEL = -1;
    private static final int NO_STATE = -1;

    /** 5 actions that ask for and change all of 6 facts, 5 steps, a goal of 6 facts. */
    private static final int MOST_CODE_CLAUSES = 422;
    private static final int MOST_CODE_LITERALS = 982;

    private final Formula formula;
    private final Models found;
    private final Task task;
    private final Code told;

    public PlanClauses() {
        formula = new Formula();
        found = new Models(formula);
        task = new Task();
        told = new Code(task);
    }

    // ---- clauses

    public int variables(int n) {
        if (n < 0 || n > MOST_VARIABLES) {
            return BAD;
        }
        if (formula.rows.size > 0) {
            return STATE;
        }
        int before = formula.width;
        formula.width = n;
        formula.draftSize = 0;
        found.forget();
        return before;
    }

    public int literal(int l) {
        if (l == 0 || !isLiteralOrZero(l) || formula.draftHas(Math.abs(l))) {
            return BAD;
        }
        if (formula.draftSize >= MOST_LITERALS) {
            return FULL;
        }
        return formula.addToDraft(l);
    }

    public int clause() {
        if (formula.rows.size >= MOST_CLAUSES) {
            return FULL;
        }
        formula.addDraft();
        found.forget();
        return formula.rows.size;
    }

    public int drop() {
        if (formula.rows.size == 0) {
            return STATE;
        }
        formula.rows.size--;
        found.forget();
        return formula.rows.size;
    }

    public int at(int i, int k) {
        if (i < 0 || i >= formula.rows.size || k < 0) {
            return BAD;
        }
        return formula.literalOf(i, k);
    }

    public int sat(int l) {
        if (!isLiteralOrZero(l)) {
            return BAD;
        }
        return found.allow(l) ? 1 : 0;
    }

    public int value(int v) {
        if (!isVariable(v)) {
            return BAD;
        }
        return found.reach(1) ? found.truth(0, v) : NONE;
    }

    public int model(int i, int v) {
        if (i < 0 || i >= MOST_ANSWERS || !isVariable(v)) {
            return BAD;
        }
        return found.reach(i + 1) ? found.truth(i, v) : NONE;
    }

    public int models() {
        found.reach(MOST_ANSWERS);
        return found.size;
    }

    public int forced(int v) {
        if (!isVariable(v)) {
            return BAD;
        }
        boolean canBeTrue = found.allow(v);
        if (canBeTrue == found.allow(-v)) {
            return NONE;
        }
        return canBeTrue ? 1 : 0;
    }

    public int culprit() {
        return found.allow(0) ? NONE : found.firstWithout();
    }

    private boolean isVariable(int v) {
        return v >= 1 && v <= formula.width;
    }

    private boolean isLiteralOrZero(int l) {
        return l >= -formula.width && l <= formula.width;
    }

    // ---- tasks

    public int facts(int n) {
        if (n < 0 || n > MOST_FACTS) {
            return BAD;
        }
        int before = task.factCount;
        task.restart(n);
        told.forget();
        return before;
    }

    public int action(int asks, int adds, int takes) {
        if (!areFacts(asks) || !areFacts(adds) || !areFacts(takes)) {
            return BAD;
        }
        if (task.actionCount >= MOST_ACTIONS) {
            return FULL;
        }
        told.forget();
        return task.addAction(asks, adds, takes);
    }

    public int set(int which, int bits) {
        if (which < 0 || which > 1 || !areFacts(bits)) {
            return BAD;
        }
        told.forget();
        return which == 0 ? task.begin(bits) : task.aim(bits);
    }

    public int plan(int t) {
        if (!isLength(t)) {
            return BAD;
        }
        return task.ways(t, task.beginning) > 0 ? 1 : 0;
    }

    public int step(int t, int i) {
        if (!isLength(t) || i < 0 || i >= t) {
            return BAD;
        }
        if (task.ways(t, task.beginning) == 0) {
            return NONE;
        }
        return task.choice(t - i, task.stateAhead(t, i));
    }

    public int state(int t, int i) {
        if (!isLength(t) || i < 0 || i > t) {
            return BAD;
        }
        if (task.ways(t, task.beginning) == 0) {
            return NONE;
        }
        return task.stateAhead(t, i);
    }

    public int shortest() {
        for (int t = 0; t <= MOST_STEPS; t++) {
            if (task.ways(t, task.beginning) > 0) {
                return t;
            }
        }
        return NONE;
    }

    public int plans(int t) {
        if (!isLength(t)) {
            return BAD;
        }
        return task.ways(t, task.beginning);
    }

    public int code(int t, int what) {
        if (!isLength(t) || what < 0 || what > 2) {
            return BAD;
        }
        if (what == 0) {
            return (t + 1) * task.factCount + t * task.actionCount;
        }
        told.tell(t);
        return what == 1 ? told.clauseCount : told.literalCount;
    }

    public int coded(int t, int i, int k) {
        if (!isLength(t) || i < 0 || k < 0) {
            return BAD;
        }
        told.tell(t);
        if (i >= told.clauseCount) {
            return BAD;
        }
        return told.literalOf(i, k);
    }

    public int count(int what) {
        switch (what) {
            case 0: return formula.width;
            case 1: return formula.rows.size;
            case 2: return formula.draftSize;
            case 3: return task.factCount;
            case 4: return task.actionCount;
            case 5: return task.beginning;
            case 6: return task.goal;
            default: return BAD;
        }
    }

    private boolean areFacts(int bits) {
        return bits >= 0 && bits < 1 << task.factCount;
    }

    private static boolean isLength(int t) {
        return t >= 0 && t <= MOST_STEPS;
    }

    /** Clauses as sets of variables: bit v - 1 stands for variable v. */
    private static final class Rows {
        final int[] wantTrue;
        final int[] wantFalse;
        int size;
        int oldest;

        Rows(int room) {
            wantTrue = new int[room];
            wantFalse = new int[room];
        }

        void clear() {
            size = 0;
            oldest = 0;
        }

        /** Where there is no room left, the oldest row makes place. */
        void add(int trues, int falses) {
            int room = wantTrue.length;
            int place = size;
            if (size < room) {
                size++;
            } else {
                place = oldest;
                oldest = oldest + 1 < room ? oldest + 1 : 0;
            }
            if (place < room) {
                wantTrue[place] = trues;
                wantFalse[place] = falses;
            }
        }
    }

    /** The variables, the draft and the clauses, as they were told. */
    private static final class Formula {
        int width;
        int draftSize;
        final int[] draft = new int[MOST_LITERALS];
        final int[] literals = new int[MOST_CLAUSES * MOST_LITERALS];
        final int[] sizes = new int[MOST_CLAUSES];
        final Rows rows = new Rows(MOST_CLAUSES);

        boolean draftHas(int variable) {
            for (int k = 0; k < draftSize; k++) {
                if (Math.abs(draft[k]) == variable) {
                    return true;
                }
            }
            return false;
        }

        int addToDraft(int literal) {
            if (draftSize < MOST_LITERALS) {
                draft[draftSize] = literal;
                draftSize++;
            }
            return draftSize;
        }

        void addDraft() {
            int place = rows.size;
            if (place >= MOST_CLAUSES) {
                return;
            }
            int trues = 0;
            int falses = 0;
            for (int k = 0; k < draftSize; k++) {
                int literal = draft[k];
                literals[place * MOST_LITERALS + k] = literal;
                if (literal > 0) {
                    trues |= 1 << (literal - 1);
                } else {
                    falses |= 1 << (-literal - 1);
                }
            }
            sizes[place] = draftSize;
            rows.add(trues, falses);
            draftSize = 0;
        }

        int literalOf(int place, int k) {
            if (place < 0 || place >= rows.size || place >= MOST_CLAUSES || k < 0 || k >= sizes[place]) {
                return NONE;
            }
            return literals[place * MOST_LITERALS + k];
        }
    }

    /** The models found so far, from the least on, and which truths some model has. */
    private static final class Models {
        final Formula formula;
        final Search search;
        final int[] rows = new int[MOST_ANSWERS];
        int size;
        int seenTrue;
        int seenFalse;
        boolean begun;
        boolean complete;

        Models(Formula formula) {
            this.formula = formula;
            search = new Search(formula);
        }

        void forget() {
            begun = false;
        }

        private void begin() {
            if (!begun) {
                begun = true;
                complete = false;
                size = 0;
                seenTrue = 0;
                seenFalse = 0;
                search.begin(formula.rows.size);
            }
        }

        private void see(int model) {
            seenTrue |= model;
            seenFalse |= ~model;
        }

        /** Whether there are so many models. */
        boolean reach(int many) {
            begin();
            while (size < many && size < MOST_ANSWERS && !complete) {
                int last = size == 0 ? NO_MODEL : rows[size - 1];
                int next = last == NO_MODEL ? search.find(0, 0) : greater(last);
                if (next == NO_MODEL) {
                    complete = true;
                } else {
                    rows[size] = least(next, last == NO_MODEL ? 0 : sameAhead(last, next) + 1);
                    see(rows[size]);
                    size++;
                }
            }
            return size >= many;
        }

        /** Some model behind this one, with as many of the first truths as in any. */
        private int greater(int last) {
            for (int v = formula.width - 1; v >= 0; v--) {
                int variable = 1 << v;
                if ((last & variable) == 0) {
                    int ahead = variable - 1;
                    int next = search.find(last & ahead | variable, ~last & ahead);
                    if (next != NO_MODEL) {
                        return next;
                    }
                }
            }
            return NO_MODEL;
        }

        /** The least model of those that have the first truths, so many, of this one. */
        private int least(int model, int kept) {
            int best = model;
            for (int v = kept; v < formula.width; v++) {
                int variable = 1 << v;
                if ((best & variable) != 0) {
                    int ahead = variable - 1;
                    int less = search.find(best & ahead, ~best & ahead | variable);
                    best = less == NO_MODEL ? best : less;
                }
            }
            return best;
        }

        /** How many of the first truths are the same. */
        private static int sameAhead(int one, int other) {
            return Integer.numberOfTrailingZeros(one ^ other);
        }

        int truth(int place, int variable) {
            if (place < 0 || place >= size || place >= MOST_ANSWERS) {
                return NONE;
            }
            return (rows[place] >> (variable - 1)) & 1;
        }

        /** Whether there is a model in which the literal is true; 0 is true in all. */
        boolean allow(int literal) {
            begin();
            int variable = literal == 0 ? 0 : 1 << (Math.abs(literal) - 1);
            int wantTrue = literal > 0 ? variable : 0;
            int wantFalse = literal < 0 ? variable : 0;
            if ((wantTrue & seenTrue) != 0 || (wantFalse & seenFalse) != 0) {
                return true;
            }
            int model = search.find(wantTrue, wantFalse);
            if (model == NO_MODEL) {
                return false;
            }
            see(model);
            return true;
        }

        /** For clauses without a model: more clauses never have more models, so halving finds it. */
        int firstWithout() {
            int low = 0;
            int high = formula.rows.size - 1;
            for (int round = 0; round < MOST_CLAUSES && low < high; round++) {
                int middle = (low + high) >> 1;
                search.begin(middle + 1);
                if (search.find(0, 0) == NO_MODEL) {
                    high = middle;
                } else {
                    low = middle + 1;
                }
            }
            search.end();
            return low;
        }
    }

    /** Which variables have a truth by now, in which order they got it, and by which clause. */
    private static final class Trail {
        int trues;
        int falses;
        int length;
        int level;
        final int[] order = new int[MOST_VARIABLES];
        final int[] whyTrue = new int[MOST_VARIABLES];
        final int[] whyFalse = new int[MOST_VARIABLES];
        /** At a level's place: the variables that had a truth ahead of it. */
        final int[] ahead = new int[MOST_LEVELS + 1];

        void clear() {
            trues = 0;
            falses = 0;
            length = 0;
            level = 0;
        }

        /** The clause that leaves the variable no choice is kept as a copy: it may be forgotten. */
        void conclude(int variable, int wantTrue, int wantFalse) {
            if (length >= MOST_VARIABLES) {
                return;
            }
            order[length] = variable;
            whyTrue[length] = wantTrue;
            whyFalse[length] = wantFalse;
            length++;
            if ((wantTrue & variable) != 0) {
                trues |= variable;
            } else {
                falses |= variable;
            }
        }

        /** A new level: truths that no clause asks for. */
        void suppose(int supposedTrue, int supposedFalse) {
            if (level >= MOST_LEVELS) {
                return;
            }
            level++;
            ahead[level] = trues | falses;
            int open = (supposedTrue | supposedFalse) & ~ahead[level];
            for (int v = 0; v < MOST_VARIABLES && open >> v != 0; v++) {
                int variable = open & 1 << v;
                if (variable != 0) {
                    conclude(variable, supposedTrue & variable, supposedFalse & variable);
                }
            }
        }

        /** Back to the end of a level. */
        void back(int target) {
            if (target < 0 || target >= level) {
                return;
            }
            int kept = ahead[target + 1];
            trues &= kept;
            falses &= kept;
            length = Integer.bitCount(kept);
            level = target;
        }

        /**
         * Back to the end of the lowest level at which the clause leaves the variable no choice, and
         * there it is concluded.
         */
        void revise(int variable, int wantTrue, int wantFalse) {
            int others = (wantTrue | wantFalse) & ~variable;
            int target = 0;
            while (target + 1 < level && (others & ~ahead[target + 1]) != 0) {
                target++;
            }
            back(target);
            conclude(variable, wantTrue, wantFalse);
        }
    }

    /** Finds a model of the formula's first clauses, and learns a clause from each clash. */
    private static final class Search {
        final Formula formula;
        final Rows learned = new Rows(MOST_LEARNED);
        final Trail trail = new Trail();
        final int[] weights = new int[MOST_VARIABLES];
        int clauses;
        int clashTrue;
        int clashFalse;
        boolean ended;

        Search(Formula formula) {
            this.formula = formula;
        }

        void begin(int firstClauses) {
            clauses = Math.max(0, Math.min(firstClauses, formula.rows.size));
            learned.clear();
            trail.clear();
            ended = false;
        }

        /** It is known that there is no model. */
        void end() {
            ended = true;
        }

        /** Some model that has the truths asked for. What was learned holds for later searches, too. */
        int find(int wantTrue, int wantFalse) {
            int asked = wantTrue | wantFalse;
            int firstLevel = asked == 0 ? 0 : 1;
            trail.back(0);
            for (long round = 0; round < MOST_ROUNDS && !ended; round++) {
                if (!propagate()) {
                    if (trail.level <= firstLevel) {
                        ended = trail.level == 0;
                        return NO_MODEL;
                    }
                    learn();
                } else if ((wantTrue & trail.falses) != 0 || (wantFalse & trail.trues) != 0) {
                    return NO_MODEL;
                } else if (trail.level < firstLevel) {
                    trail.suppose(wantTrue, wantFalse);
                } else {
                    int variable = heaviest();
                    if (variable == 0) {
                        return trail.trues;
                    }
                    trail.suppose(0, variable);
                }
            }
            return NO_MODEL;
        }

        /** Draws every conclusion there is; false if a clause cannot be true any more. */
        private boolean propagate() {
            int before = -1;
            for (int round = 0; round <= MOST_VARIABLES && trail.length != before; round++) {
                before = trail.length;
                if (!holds(formula.rows, clauses) || !holds(learned, learned.size)) {
                    return false;
                }
            }
            return true;
        }

        private boolean holds(Rows rows, int many) {
            for (int i = 0; i < many; i++) {
                int wantTrue = rows.wantTrue[i];
                int wantFalse = rows.wantFalse[i];
                if (((wantTrue & trail.trues) | (wantFalse & trail.falses)) == 0) {
                    int open = (wantTrue | wantFalse) & ~(trail.trues | trail.falses);
                    if (open == 0) {
                        clashTrue = wantTrue;
                        clashFalse = wantFalse;
                        return false;
                    }
                    if (!areSeveral(open)) {
                        trail.conclude(open, wantTrue, wantFalse);
                    }
                }
            }
            return true;
        }

        /**
         * Puts for the clash's conclusions of this level the clauses that forced them, the latest
         * first, until one variable of the level is left: that one could have been concluded earlier.
         */
        private void learn() {
            int wantTrue = clashTrue;
            int wantFalse = clashFalse;
            int earlier = trail.ahead[trail.level];
            int place = trail.length - 1;
            while (place >= 0 && areSeveral((wantTrue | wantFalse) & ~earlier)) {
                int variable = trail.order[place];
                if (((wantTrue | wantFalse) & variable) != 0) {
                    wantTrue = (wantTrue | trail.whyTrue[place]) & ~variable;
                    wantFalse = (wantFalse | trail.whyFalse[place]) & ~variable;
                }
                place--;
            }
            int certain = trail.ahead[1];
            wantTrue &= ~certain;
            wantFalse &= ~certain;
            learned.add(wantTrue, wantFalse);
            trail.revise((wantTrue | wantFalse) & ~earlier, wantTrue, wantFalse);
        }

        /**
         * The open variable that weighs most in the clauses not yet true; 0: all are true. A clause
         * weighs four times as much as one with a literal more, for it clashes sooner: guesses in the
         * variables' order would try all rows of those that a clash at the end has no use for.
         */
        private int heaviest() {
            for (int v = 0; v < MOST_VARIABLES; v++) {
                weights[v] = 0;
            }
            for (int i = 0; i < clauses; i++) {
                int wantTrue = formula.rows.wantTrue[i];
                int wantFalse = formula.rows.wantFalse[i];
                if (((wantTrue & trail.trues) | (wantFalse & trail.falses)) == 0) {
                    weigh(i, (wantTrue | wantFalse) & ~(trail.trues | trail.falses));
                }
            }
            int best = 0;
            int most = 0;
            for (int v = 0; v < MOST_VARIABLES; v++) {
                if (weights[v] > most) {
                    most = weights[v];
                    best = 1 << v;
                }
            }
            return best;
        }

        private void weigh(int clause, int open) {
            int weight = 1 << 2 * (MOST_LITERALS - Integer.bitCount(open));
            for (int k = 0; k < formula.sizes[clause]; k++) {
                int v = Math.abs(formula.literalOf(clause, k)) - 1;
                if ((open >> v & 1) != 0) {
                    weights[v] += weight;
                }
            }
        }

        private static boolean areSeveral(int variables) {
            return (variables & (variables - 1)) != 0;
        }
    }

    /** Facts and actions, and in how many ways the goal can be reached. */
    private static final class Task {
        int factCount;
        int actionCount;
        int beginning;
        int goal;
        final int[] asks = new int[MOST_ACTIONS];
        final int[] adds = new int[MOST_ACTIONS];
        final int[] takes = new int[MOST_ACTIONS];
        /** For each number of steps left and each state: the plans from there, 60 at most. */
        final int[] ways = new int[(MOST_STEPS + 1) * STATES];
        boolean counted;

        void restart(int facts) {
            factCount = facts;
            actionCount = 0;
            beginning = 0;
            goal = 0;
            counted = false;
        }

        int addAction(int asked, int added, int taken) {
            int number = actionCount;
            if (number < MOST_ACTIONS) {
                asks[number] = asked;
                adds[number] = added;
                takes[number] = taken & ~added;
                actionCount++;
                counted = false;
            }
            return number;
        }

        int begin(int bits) {
            int before = beginning;
            beginning = bits;
            return before;
        }

        int aim(int bits) {
            int before = goal;
            goal = bits;
            counted = false;
            return before;
        }

        /** The state behind an action; NO_STATE: it cannot be done. */
        int after(int action, int from) {
            if (action < 0 || action >= actionCount || (asks[action] & ~from) != 0) {
                return NO_STATE;
            }
            return (from | adds[action]) & ~takes[action];
        }

        int ways(int left, int from) {
            if (!counted) {
                countWays();
                counted = true;
            }
            return waysCounted(left, from);
        }

        private int waysCounted(int left, int from) {
            if (left < 0 || left > MOST_STEPS || from < 0 || from >= STATES) {
                return 0;
            }
            return ways[left * STATES + from];
        }

        /** From the end back, so that each state's ways are those of the states behind it. */
        private void countWays() {
            int states = 1 << factCount;
            for (int from = 0; from < states && from < STATES; from++) {
                ways[from] = (goal & ~from) == 0 ? 1 : 0;
            }
            for (int left = 1; left <= MOST_STEPS; left++) {
                for (int from = 0; from < states && from < STATES; from++) {
                    int sum = waysCounted(left - 1, from);
                    for (int action = 0; action < actionCount; action++) {
                        sum += waysCounted(left - 1, after(action, from));
                    }
                    ways[left * STATES + from] = Math.min(sum, MOST_ANSWERS);
                }
            }
        }

        /** What the first plan does in a state from which there is one. */
        int choice(int left, int from) {
            for (int action = 0; action < actionCount; action++) {
                if (ways(left - 1, after(action, from)) > 0) {
                    return action;
                }
            }
            return NOTHING;
        }

        int stateAhead(int t, int i) {
            int now = beginning;
            for (int done = 0; done < i && done < t; done++) {
                int action = choice(t - done, now);
                if (action != NOTHING) {
                    now = after(action, now);
                }
            }
            return now;
        }
    }

    /** A task of so many steps, told as clauses. */
    private static final class Code {
        final Task task;
        final int[] literals = new int[MOST_CODE_LITERALS];
        /** Where each clause begins; behind the last one, where it ends. */
        final int[] starts = new int[MOST_CODE_CLAUSES + 1];
        int clauseCount;
        int literalCount;
        int steps;
        boolean told;

        Code(Task task) {
            this.task = task;
        }

        void forget() {
            told = false;
        }

        void tell(int t) {
            if (told && steps == t) {
                return;
            }
            told = true;
            steps = t;
            clauseCount = 0;
            literalCount = 0;
            tellEnds();
            for (int i = 0; i < t; i++) {
                tellAsked(i);
                tellChanged(i);
                tellKept(i);
                tellPairs(i);
            }
        }

        int literalOf(int i, int k) {
            if (i < 0 || i >= clauseCount || k < 0 || k >= starts[i + 1] - starts[i]) {
                return NONE;
            }
            return literals[starts[i] + k];
        }

        private int fact(int number, int time) {
            return 1 + time * task.factCount + number;
        }

        private int done(int action, int i) {
            return 1 + (steps + 1) * task.factCount + i * task.actionCount + action;
        }

        private void put(int literal) {
            if (literalCount < MOST_CODE_LITERALS) {
                literals[literalCount] = literal;
                literalCount++;
            }
        }

        private void close() {
            if (clauseCount < MOST_CODE_CLAUSES) {
                clauseCount++;
                starts[clauseCount] = literalCount;
            }
        }

        private void tellEnds() {
            for (int f = 0; f < task.factCount; f++) {
                put(has(task.beginning, f) ? fact(f, 0) : -fact(f, 0));
                close();
            }
            for (int f = 0; f < task.factCount; f++) {
                if (has(task.goal, f)) {
                    put(fact(f, steps));
                    close();
                }
            }
        }

        private void tellAsked(int i) {
            for (int a = 0; a < task.actionCount; a++) {
                for (int f = 0; f < task.factCount; f++) {
                    if (has(task.asks[a], f)) {
                        put(-done(a, i));
                        put(fact(f, i));
                        close();
                    }
                }
            }
        }

        private void tellChanged(int i) {
            for (int a = 0; a < task.actionCount; a++) {
                for (int f = 0; f < task.factCount; f++) {
                    boolean added = has(task.adds[a], f);
                    if (added || has(task.takes[a], f)) {
                        put(-done(a, i));
                        put(added ? fact(f, i + 1) : -fact(f, i + 1));
                        close();
                    }
                }
            }
        }

        private void tellKept(int i) {
            for (int f = 0; f < task.factCount; f++) {
                put(fact(f, i));
                put(-fact(f, i + 1));
                putActionsWith(task.adds, f, i);
                close();
                put(-fact(f, i));
                put(fact(f, i + 1));
                putActionsWith(task.takes, f, i);
                close();
            }
        }

        private void putActionsWith(int[] sets, int f, int i) {
            for (int a = 0; a < task.actionCount && a < sets.length; a++) {
                if (has(sets[a], f)) {
                    put(done(a, i));
                }
            }
        }

        private void tellPairs(int i) {
            for (int a = 0; a < task.actionCount; a++) {
                for (int b = a + 1; b < task.actionCount; b++) {
                    put(-done(a, i));
                    put(-done(b, i));
                    close();
                }
            }
        }

        private static boolean has(int bits, int f) {
            return (bits >> f & 1) != 0;
        }
    }
}
