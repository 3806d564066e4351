import java.util.ArrayList;
import java.util.LinkedHashMap;
import java.util.List;
import java.util.Map;
import java.util.function.Supplier;

/**
 * "A call that is refused (by a code below 0 that is named, or by false) changes nothing": each such call is made on
 * one of two objects with the same past, and from then on both must answer alike. So must they after a question that
 * is answered, or that is answered by 0 because there is nothing to tell.
 */
public final class RefusalsTest extends Checks {
    private interface Call {
        long on(RationalDesk desk);
    }

    /** Each of these objects is made anew for each call. */
    private static final Map<String, Supplier<RationalDesk>> PASTS = new LinkedHashMap<>();

    public static void main(String[] args) {
        PASTS.put("new", RationalDesk::new);
        PASTS.put("with a RESULT", RefusalsTest::withResult);
        PASTS.put("with the RESULT 0", RefusalsTest::withResult0);
        PASTS.put("after a fault", RefusalsTest::afterFault);
        PASTS.put("after SYNTAX", RefusalsTest::afterSyntax);
        PASTS.put("with 24 tokens", RefusalsTest::withAllTokens);
        tokens();
        storesAndClears();
        questionsWithoutPlace();
        questionsWithoutPart();
        questionsWithoutFactor();
        questionsWithoutNumber();
        statesThatRefuse();
        questionsThatAreAnswered();
        end();
    }

    // ---- the objects ----

    private static RationalDesk withResult() {
        RationalDesk desk = with("(x+1)/x");
        desk.store(0);
        evaluate(desk, "2*x");
        desk.store(5);
        due("RESULT", evaluate(desk, "x^8/(x^2+2)/(x+1)"), RationalDesk.OK);
        type(desk, "a+f*x");
        return desk;
    }

    private static RationalDesk withResult0() {
        RationalDesk desk = with("x-x");
        desk.store(1);
        return desk;
    }

    private static RationalDesk afterFault() {
        RationalDesk desk = with("1/(x+3)");
        desk.store(3);
        due("fault", evaluate(desk, "d@2"), RationalDesk.ZERO);
        return desk;
    }

    private static RationalDesk afterSyntax() {
        RationalDesk desk = with("x^2");
        desk.store(2);
        due("fault", evaluate(desk, "c+(x"), RationalDesk.SYNTAX);
        return desk;
    }

    private static RationalDesk withAllTokens() {
        RationalDesk desk = with("x^4+2");
        desk.store(4);
        due("RESULT", evaluate(desk, "-x+x+x+x+x+x+x+x+x+x+x-e"), RationalDesk.OK);
        return desk;
    }

    // ---- what an object has to tell ----

    private static List<Long> picture(RationalDesk desk) {
        List<Long> answers = new ArrayList<>();
        answers.add((long) desk.place());
        for (int at = 0; at <= 6; at++) {
            look(desk, at, answers);
        }
        // What the tokens are shows in their value alone.
        answers.add((long) desk.evaluate());
        answers.add((long) desk.place());
        look(desk, 6, answers);
        answers.add((long) desk.wipe());
        answers.add((long) desk.evaluate());
        answers.add((long) desk.place());
        return answers;
    }

    private static void look(RationalDesk desk, int at, List<Long> answers) {
        for (int part = 0; part <= 1; part++) {
            answers.add((long) desk.degree(at, part));
            for (int k = 0; k <= 8; k++) {
                answers.add((long) desk.number(at, part, k));
            }
            answers.add((long) desk.factors(at, part));
            answers.add((long) desk.factor(at, part, 0, 0));
            answers.add((long) desk.power(at, part, 0));
        }
        answers.add((long) desk.value(at, 1));
        answers.add((long) desk.fraction(at, -1, 0, 0));
        answers.add((long) desk.fraction(at, 0, 1, 0));
    }

    private static void changesNothing(String past, String what, Call call) {
        RationalDesk untouched = PASTS.get(past).get();
        RationalDesk touched = PASTS.get(past).get();
        long first = call.on(touched);
        due(what + ", asked twice", call.on(touched), first);
        List<Long> want = picture(untouched);
        List<Long> got = picture(touched);
        for (int i = 0; i < want.size(); i++) {
            due("answer " + i + " after " + what, got.get(i), want.get(i));
        }
    }

    private static void refused(String past, String what, long answer, Call call) {
        about = past;
        due(what, call.on(PASTS.get(past).get()), answer);
        changesNothing(past, what, call);
    }

    private static void alwaysRefused(String what, long answer, Call call) {
        for (String past : PASTS.keySet()) {
            refused(past, what, answer, call);
        }
    }

    private static long of(boolean answer) {
        return answer ? 1 : 0;
    }

    // ---- the calls ----

    private static void tokens() {
        int[] kinds = {LOW, -1, 12, HIGH};
        for (int kind : kinds) {
            alwaysRefused("token of kind " + kind, 0, desk -> of(desk.token(kind, 0)));
        }
        int[] variables = {LOW, -1, 6, HIGH};
        for (int n : variables) {
            alwaysRefused("VAR " + n, 0, desk -> of(desk.token(2, n)));
        }
        int[] exponents = {LOW, -9, 9, HIGH};
        for (int n : exponents) {
            alwaysRefused("exponent " + n, 0, desk -> of(desk.token(9, n)));
        }
        for (int kind = 0; kind <= 11; kind++) {
            int one = kind;
            refused("with 24 tokens", "one token more of kind " + kind, 0, desk -> of(desk.token(one, 1)));
        }
    }

    private static void storesAndClears() {
        int[] outside = {LOW, -1, 6, 7, HIGH};
        for (int n : outside) {
            alwaysRefused("store " + n, 0, desk -> of(desk.store(n)));
            alwaysRefused("clear " + n, 0, desk -> of(desk.clear(n)));
        }
    }

    private static void questionsWithoutPlace() {
        int[] outside = {LOW, -1, 7, HIGH};
        for (int at : outside) {
            alwaysRefused("degree at " + at, -2, desk -> desk.degree(at, 0));
            alwaysRefused("number at " + at, 0, desk -> desk.number(at, 1, 0));
            alwaysRefused("value at " + at, -1, desk -> desk.value(at, 0));
            alwaysRefused("factors at " + at, -1, desk -> desk.factors(at, 1));
            alwaysRefused("factorDegree at " + at, -1, desk -> desk.factorDegree(at, 0, 0));
            alwaysRefused("factor at " + at, 0, desk -> desk.factor(at, 0, 0, 1));
            alwaysRefused("power at " + at, 0, desk -> desk.power(at, 0, 0));
            alwaysRefused("fraction at " + at, 0, desk -> desk.fraction(at, -1, 0, 0));
        }
    }

    private static void questionsWithoutPart() {
        int[] outside = {LOW, -1, 2, HIGH};
        for (int part : outside) {
            alwaysRefused("degree of part " + part, -2, desk -> desk.degree(6, part));
            alwaysRefused("number of part " + part, 0, desk -> desk.number(6, part, 0));
            alwaysRefused("factors of part " + part, -1, desk -> desk.factors(6, part));
            alwaysRefused("factorDegree of part " + part, -1, desk -> desk.factorDegree(6, part, 0));
            alwaysRefused("factor of part " + part, 0, desk -> desk.factor(6, part, 0, 1));
            alwaysRefused("power of part " + part, 0, desk -> desk.power(6, part, 0));
        }
    }

    private static void questionsWithoutFactor() {
        int[] outside = {LOW, -1, 6, 8, HIGH};
        for (int i : outside) {
            alwaysRefused("factorDegree " + i, -1, desk -> desk.factorDegree(6, 1, i));
            alwaysRefused("factor " + i, 0, desk -> desk.factor(6, 1, i, 0));
            alwaysRefused("power " + i, 0, desk -> desk.power(6, 1, i));
        }
        int[] noFactor = {LOW, -2, 6, 8, HIGH};
        for (int i : noFactor) {
            alwaysRefused("fraction of factor " + i, 0, desk -> desk.fraction(6, i, 1, 0));
        }
        int[] noPower = {LOW, -1, 0, 9, HIGH};
        for (int j : noPower) {
            alwaysRefused("fraction of power " + j, 0, desk -> desk.fraction(6, 0, j, 0));
        }
    }

    private static void questionsWithoutNumber() {
        int[] outside = {LOW, -1, 9, HIGH};
        for (int k : outside) {
            alwaysRefused("number at x^" + k, 0, desk -> desk.number(6, 1, k));
            alwaysRefused("factor at x^" + k, 0, desk -> desk.factor(6, 1, 0, k));
            alwaysRefused("fraction at x^" + k, 0, desk -> desk.fraction(6, 0, 1, k));
            alwaysRefused("polynomial at x^" + k, 0, desk -> desk.fraction(6, -1, 1, k));
        }
    }

    private static void statesThatRefuse() {
        String[] withoutResult = {"new", "after a fault", "after SYNTAX"};
        for (String past : withoutResult) {
            for (int n = 0; n <= 5; n++) {
                int one = n;
                refused(past, "store " + n + " without RESULT", 0, desk -> of(desk.store(one)));
            }
            refused(past, "degree", -2, desk -> desk.degree(6, 0));
            refused(past, "number", 0, desk -> desk.number(6, 1, 0));
            refused(past, "value", -1, desk -> desk.value(6, 0));
            refused(past, "factors", -1, desk -> desk.factors(6, 0));
            refused(past, "factorDegree", -1, desk -> desk.factorDegree(6, 0, 0));
            refused(past, "factor", 0, desk -> desk.factor(6, 0, 0, 1));
            refused(past, "power", 0, desk -> desk.power(6, 0, 0));
            refused(past, "fraction", 0, desk -> desk.fraction(6, 0, 1, 0));
        }
        refused("with the RESULT 0", "factors of 0", -1, desk -> desk.factors(6, 0));
        refused("with the RESULT 0", "factorDegree of 0", -1, desk -> desk.factorDegree(6, 0, 0));
        refused("with a RESULT", "clear of nothing", 0, desk -> of(desk.clear(1)));
        refused("after a fault", "clear of nothing", 0, desk -> of(desk.clear(0)));
        refused("new", "clear of nothing", 0, desk -> of(desk.clear(5)));
    }

    private static void questionsThatAreAnswered() {
        for (String past : PASTS.keySet()) {
            about = past;
            for (int n = 0; n <= 6; n++) {
                int at = n;
                changesNothing(past, "degree of " + at, desk -> desk.degree(at, 0));
                changesNothing(past, "number of " + at, desk -> desk.number(at, 1, 0));
                changesNothing(past, "value of " + at, desk -> desk.value(at, 2));
                changesNothing(past, "factors of " + at, desk -> desk.factors(at, 0));
                changesNothing(past, "factorDegree of " + at, desk -> desk.factorDegree(at, 1, 0));
                changesNothing(past, "factor of " + at, desk -> desk.factor(at, 1, 0, 0));
                changesNothing(past, "power of " + at, desk -> desk.power(at, 1, 0));
                changesNothing(past, "fraction of " + at, desk -> desk.fraction(at, 0, 1, 0));
                changesNothing(past, "polynomial of " + at, desk -> desk.fraction(at, -1, 1, 0));
            }
            changesNothing(past, "place", desk -> desk.place());
        }
    }
}
