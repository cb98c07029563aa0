import java.util.ArrayList;
import java.util.List;

/**
 * Refused calls: each, twice, on an object of its own, which afterwards answers all that can be asked as
 * one that has never got the call.
 */
final class RefusalsTest {
    private static final int BAD = PlanClauses.BAD, STATE = PlanClauses.STATE, FULL = PlanClauses.FULL;
    private static final int LEAST = Integer.MIN_VALUE, MOST = Integer.MAX_VALUE;
    private static final int[] FAR = {LEAST, LEAST + 1, -1000, 1000, MOST};

    /** What has been told before the call. */
    private interface Told {
        PlanClauses object();
    }

    private interface Call {
        int of(PlanClauses x);
    }

    private RefusalsTest() {
    }

    // ---- what has been told

    /** 5 variables, 3 clauses, 3 models, a draft of 2; 3 facts, 2 actions, a plan of 2. */
    private static PlanClauses midway() {
        PlanClauses x = Tell.withVariables(5);
        Tell.clause(x, 1, -2);
        Tell.clause(x, 2);
        Tell.clause(x, 3, -4, 5);
        Tell.draft(x, -5, 4);
        x.facts(3);
        x.action(1, 2, 1);
        x.action(2, 5, 2);
        x.set(0, 1);
        x.set(1, 5);
        return x;
    }

    private static PlanClauses withFullDraft() {
        PlanClauses x = Tell.withVariables(8);
        Tell.clause(x, 8);
        Tell.draft(x, 1, -2, 3, -4, 5, -6);
        return x;
    }

    private static PlanClauses withFourHundredClauses() {
        PlanClauses x = Tell.withVariables(4);
        Tell.clausesOfNone(x, 400);
        Tell.draft(x, 3, -1);
        return x;
    }

    private static PlanClauses withFiveActions() {
        PlanClauses x = Tell.withFacts(2);
        x.action(0, 1, 0);
        x.action(1, 2, 1);
        x.action(2, 1, 0);
        x.action(3, 0, 3);
        x.action(0, 0, 0);
        x.set(1, 3);
        return x;
    }

    private static PlanClauses withoutModelOrPlan() {
        PlanClauses x = Tell.withVariables(2);
        Tell.clause(x, 1);
        Tell.clause(x, -1);
        Tell.draft(x, 2);
        x.facts(1);
        x.action(1, 1, 0);
        x.set(1, 1);
        return x;
    }

    // ---- a refused call changes nothing

    @Says(promise = Sentences.TERMS, words = "Refused, and nothing changes,")
    static void newObject() {
        Told told = PlanClauses::new;
        badNumbersChangeNothing(told);
        changesNothing(told, STATE, x -> x.drop());
        changesNothing(told, BAD, x -> x.literal(1), x -> x.literal(-1), x -> x.sat(1), x -> x.sat(-1),
            x -> x.value(1), x -> x.model(0, 1), x -> x.forced(1), x -> x.at(0, 0));
        changesNothing(told, BAD, x -> x.action(1, 0, 0), x -> x.action(0, 1, 0), x -> x.action(0, 0, 1),
            x -> x.set(0, 1), x -> x.set(1, 1), x -> x.coded(0, 0, 0), x -> x.coded(5, 0, 0));
    }

    @Says(promise = Sentences.TERMS, words = "Refused, and nothing changes,")
    static void objectMidway() {
        Told told = RefusalsTest::midway;
        badNumbersChangeNothing(told);
        changesNothing(told, STATE, x -> x.variables(0), x -> x.variables(4), x -> x.variables(5),
            x -> x.variables(30));
        changesNothing(told, BAD, x -> x.literal(5), x -> x.literal(-5), x -> x.literal(4), x -> x.literal(-4),
            x -> x.literal(6), x -> x.literal(-6), x -> x.at(3, 0), x -> x.sat(6), x -> x.sat(-6),
            x -> x.value(6), x -> x.model(0, 6), x -> x.model(60, 1), x -> x.forced(6));
        changesNothing(told, BAD, x -> x.action(8, 0, 0), x -> x.action(0, 8, 0), x -> x.action(0, 0, 8),
            x -> x.set(0, 8), x -> x.set(1, 8), x -> x.step(2, 2), x -> x.state(2, 3),
            x -> x.coded(1, 19, 0), x -> x.coded(0, 5, 0));
    }

    @Says(promise = Sentences.TERMS, words = "Refused, and nothing changes,")
    static void objectWithFullDraft() {
        Told told = RefusalsTest::withFullDraft;
        badNumbersChangeNothing(told);
        changesNothing(told, FULL, x -> x.literal(7), x -> x.literal(-7), x -> x.literal(8), x -> x.literal(-8));
        changesNothing(told, BAD, x -> x.literal(1), x -> x.literal(-1), x -> x.literal(6), x -> x.literal(-6),
            x -> x.literal(9), x -> x.literal(-9));
        changesNothing(told, STATE, x -> x.variables(8));
    }

    @Says(promise = Sentences.TERMS, words = "Refused, and nothing changes,")
    static void objectWithFourHundredClauses() {
        Told told = RefusalsTest::withFourHundredClauses;
        changesNothing(told, FULL, x -> x.clause());
        changesNothing(told, STATE, x -> x.variables(0), x -> x.variables(4), x -> x.variables(30));
        changesNothing(told, BAD, x -> x.variables(-1), x -> x.variables(31), x -> x.at(400, 0),
            x -> x.at(-1, 0), x -> x.at(399, -1), x -> x.literal(3), x -> x.literal(1), x -> x.literal(5));
    }

    @Says(promise = Sentences.TERMS, words = "Refused, and nothing changes,")
    static void objectWithFiveActions() {
        Told told = RefusalsTest::withFiveActions;
        badNumbersChangeNothing(told);
        changesNothing(told, FULL, x -> x.action(0, 0, 0), x -> x.action(3, 3, 3), x -> x.action(0, 3, 0));
        changesNothing(told, BAD, x -> x.action(4, 0, 0), x -> x.action(0, 4, 0), x -> x.action(0, 0, 4));
    }

    @Says(promise = Sentences.TERMS, words = "Refused, and nothing changes,")
    static void objectWithoutModelOrPlan() {
        Told told = RefusalsTest::withoutModelOrPlan;
        badNumbersChangeNothing(told);
        changesNothing(told, BAD, x -> x.value(3), x -> x.forced(3), x -> x.model(0, 3), x -> x.sat(3),
            x -> x.step(0, 0), x -> x.step(5, 5), x -> x.state(5, 6), x -> x.action(2, 0, 0), x -> x.set(0, 2));
        changesNothing(told, STATE, x -> x.variables(2));
    }

    // ---- the first of those that could be told

    @Says(promise = Sentences.TERMS, words = "the first of these: BAD (a number is not as told, or there is no"
        + " such thing), STATE (as told), FULL.")
    static void badAheadOfState() {
        for (int n : new int[] {-1, 31, 32, LEAST, MOST}) {
            changesNothing(RefusalsTest::midway, BAD, x -> x.variables(n));
            changesNothing(RefusalsTest::withFullDraft, BAD, x -> x.variables(n));
            changesNothing(RefusalsTest::withoutModelOrPlan, BAD, x -> x.variables(n));
            changesNothing(RefusalsTest::withFourHundredClauses, BAD, x -> x.variables(n));
        }
    }

    @Says(promise = Sentences.TERMS, words = "the first of these: BAD (a number is not as told, or there is no"
        + " such thing), STATE (as told), FULL.")
    static void badAheadOfFullDraft() {
        for (int l : new int[] {0, 1, -1, 2, -2, 6, -6, 9, -9, 30, 31, -31, LEAST, LEAST + 1, MOST}) {
            changesNothing(RefusalsTest::withFullDraft, BAD, x -> x.literal(l));
        }
        changesNothing(RefusalsTest::withFullDraft, FULL, x -> x.literal(7), x -> x.literal(-8));
    }

    @Says(promise = Sentences.TERMS, words = "the first of these: BAD (a number is not as told, or there is no"
        + " such thing), STATE (as told), FULL.")
    static void badAheadOfFullActions() {
        for (int bits : new int[] {-1, 4, 5, 64, LEAST, LEAST + 1, MOST}) {
            changesNothing(RefusalsTest::withFiveActions, BAD, x -> x.action(bits, 0, 0),
                x -> x.action(0, bits, 0), x -> x.action(0, 0, bits), x -> x.action(bits, bits, bits));
        }
        changesNothing(RefusalsTest::withFiveActions, FULL, x -> x.action(3, 3, 3), x -> x.action(0, 0, 0));
    }

    /** Numbers that are bad for every object, and things that none has. */
    private static void badNumbersChangeNothing(Told told) {
        changesNothing(told, BAD, x -> x.variables(-1), x -> x.variables(31), x -> x.literal(0),
            x -> x.literal(31), x -> x.literal(-31), x -> x.at(-1, 0), x -> x.at(400, 0), x -> x.at(0, -1),
            x -> x.sat(31), x -> x.sat(-31), x -> x.value(0), x -> x.value(-1), x -> x.value(31),
            x -> x.model(-1, 1), x -> x.model(60, 1), x -> x.model(0, 0), x -> x.model(0, 31),
            x -> x.forced(0), x -> x.forced(-1), x -> x.forced(31));
        changesNothing(told, BAD, x -> x.facts(-1), x -> x.facts(7), x -> x.action(-1, 0, 0),
            x -> x.action(0, -1, 0), x -> x.action(0, 0, -1), x -> x.action(64, 0, 0), x -> x.action(0, 64, 0),
            x -> x.action(0, 0, 64), x -> x.set(-1, 0), x -> x.set(2, 0), x -> x.set(0, -1), x -> x.set(1, -1),
            x -> x.set(0, 64), x -> x.set(1, 64));
        changesNothing(told, BAD, x -> x.plan(-1), x -> x.plan(6), x -> x.step(-1, 0), x -> x.step(6, 0),
            x -> x.step(0, 0), x -> x.step(5, -1), x -> x.step(5, 5), x -> x.state(-1, 0), x -> x.state(6, 0),
            x -> x.state(0, 1), x -> x.state(5, -1), x -> x.state(5, 6), x -> x.plans(-1), x -> x.plans(6),
            x -> x.code(-1, 0), x -> x.code(6, 0), x -> x.code(5, -1), x -> x.code(5, 3),
            x -> x.coded(-1, 0, 0), x -> x.coded(6, 0, 0), x -> x.coded(5, -1, 0), x -> x.coded(5, 422, 0),
            x -> x.coded(5, 0, -1), x -> x.count(-1), x -> x.count(7));
        for (int far : FAR) {
            changesNothing(told, BAD, x -> x.variables(far), x -> x.literal(far), x -> x.at(far, 0),
                x -> x.sat(far), x -> x.value(far), x -> x.model(far, 1), x -> x.model(0, far),
                x -> x.forced(far), x -> x.facts(far), x -> x.action(far, 0, 0), x -> x.action(0, far, 0),
                x -> x.action(0, 0, far), x -> x.set(far, 0), x -> x.set(0, far), x -> x.set(1, far),
                x -> x.plan(far), x -> x.step(far, 0), x -> x.step(5, far), x -> x.state(far, 0),
                x -> x.state(5, far), x -> x.plans(far), x -> x.code(far, 0), x -> x.code(5, far),
                x -> x.coded(far, 0, 0), x -> x.coded(5, far, 0), x -> x.count(far));
        }
    }

    // ---- comparing

    /** Once more after all has been asked: what was found before the call is to stay, too. */
    private static void changesNothing(Told told, int refusal, Call... calls) {
        for (int number = 0; number < calls.length; number++) {
            PlanClauses never = told.object();
            PlanClauses once = told.object();
            Due.is(calls[number].of(once), refusal);
            Due.is(calls[number].of(once), refusal);
            same(number, answers(never), answers(once));
            Due.is(calls[number].of(once), refusal);
            same(number, answersOfTheDraft(never), answersOfTheDraft(once));
            PlanClauses asked = told.object();
            int models = asked.models();
            int code = asked.code(1, 1);
            Due.is(calls[number].of(asked), refusal);
            Due.is(asked.models(), models);
            Due.is(asked.code(1, 1), code);
        }
    }

    private static void same(int number, List<Integer> due, List<Integer> got) {
        Due.holds("call " + number + " of those given changes nothing: " + got + " is " + due, got.equals(due));
    }

    /** With 400 clauses an object has not many calls left. */
    private static List<Integer> answers(PlanClauses x) {
        List<Integer> all = new ArrayList<>();
        for (int what = 0; what <= 6; what++) {
            all.add(x.count(what));
        }
        all.add(x.models());
        all.add(x.culprit());
        all.add(x.shortest());
        if (x.count(1) < 10) {
            addClauses(all, x);
            addModels(all, x);
            addPlans(all, x);
            addCode(all, x);
        }
        return all;
    }

    private static void addClauses(List<Integer> all, PlanClauses x) {
        for (int i = 0; i < x.count(1); i++) {
            for (int k = 0; k <= 6; k++) {
                all.add(x.at(i, k));
            }
        }
    }

    private static void addModels(List<Integer> all, PlanClauses x) {
        int variables = x.count(0);
        for (int v = 1; v <= variables; v++) {
            all.add(x.sat(v));
            all.add(x.sat(-v));
            all.add(x.value(v));
            all.add(x.forced(v));
            for (int i = 0; i < 3; i++) {
                all.add(x.model(i, v));
            }
        }
    }

    private static void addPlans(List<Integer> all, PlanClauses x) {
        for (int t = 0; t <= 5; t++) {
            all.add(x.plan(t));
            all.add(x.plans(t));
            for (int i = 0; i <= t; i++) {
                all.add(x.state(t, i));
                all.add(x.step(t, i));
            }
        }
    }

    private static void addCode(List<Integer> all, PlanClauses x) {
        for (int t = 0; t <= 5; t += 5) {
            for (int what = 0; what <= 2; what++) {
                all.add(x.code(t, what));
            }
        }
        int clauses = x.code(1, 1);
        for (int i = 0; i < clauses; i++) {
            for (int k = 0; k <= 3; k++) {
                all.add(x.coded(1, i, k));
            }
        }
    }

    /** The draft's literals are seen when it has become a clause; the actions' room, by one more. */
    private static List<Integer> answersOfTheDraft(PlanClauses x) {
        List<Integer> all = new ArrayList<>();
        all.add(x.action(0, 0, 0));
        all.add(x.count(4));
        all.add(x.plans(1));
        all.add(x.literal(2));
        if (x.clause() == FULL) {
            all.add(x.drop());
            all.add(x.clause());
        }
        int last = x.count(1) - 1;
        all.add(last);
        for (int k = 0; k <= 6; k++) {
            all.add(x.at(last, k));
        }
        all.add(x.models());
        all.add(x.culprit());
        return all;
    }
}
