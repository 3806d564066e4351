/**
 * Each promise by hand: ordinary inputs, the edges that the document names, wrong inputs.
 * No object is used for more than the 512 calls that the document speaks of.
 */
public final class PromisesTest extends Checks {
    public static void main(String[] args) {
        promise1NewObject();
        promise2Token();
        promise3Wipe();
        promise4Values();
        promise4Syntax();
        promise4Faults();
        promise4Order();
        promise4Sizes();
        promise5Place();
        promise6Store();
        promise7Clear();
        promise8Degree();
        promise9Number();
        promise10Value();
        promise11Factors();
        promise12To14EachFactor();
        promise15Fraction();
        promise16RefusedChangesNothing();
        end();
    }

    private static void promise1NewObject() {
        about = "promise 1";
        RationalDesk desk = new RationalDesk();
        due("place", desk.place(), -1);
        due("wipe", desk.wipe(), 0);
        due("store", desk.store(0), false);
        for (int at = -1; at <= 7; at++) {
            due("degree", desk.degree(at, 0), -2);
            due("value", desk.value(at, 0), -1);
            due("factors", desk.factors(at, 0), -1);
            due("clear", desk.clear(at), false);
        }
        for (int n = 0; n <= 5; n++) {
            fault("" + (char) ('a' + n), RationalDesk.EMPTY, 0);
        }
    }

    private static void promise2Token() {
        about = "promise 2";
        RationalDesk desk = new RationalDesk();
        int[] wrongKinds = {-1, 12, 13, LOW, HIGH};
        for (int kind : wrongKinds) {
            due("kind " + kind, desk.token(kind, 0), false);
        }
        int[] wrongVariables = {-1, 6, LOW, HIGH};
        for (int n : wrongVariables) {
            due("VAR " + n, desk.token(2, n), false);
        }
        int[] wrongExponents = {-9, 9, LOW, HIGH};
        for (int n : wrongExponents) {
            due("exponent " + n, desk.token(9, n), false);
        }
        due("nothing was appended", desk.wipe(), 0);
        int[] numbers = {0, 4, -1, LOW, HIGH};
        for (int n : numbers) {
            due("NUM " + n, desk.token(0, n), true);
        }
        due("VAR 0", desk.token(2, 0), true);
        due("VAR 5", desk.token(2, 5), true);
        due("exponent -8", desk.token(9, -8), true);
        due("exponent 8", desk.token(9, 8), true);
        due("all were appended", desk.wipe(), 9);
        int[] others = {1, 3, 4, 5, 6, 7, 8, 10, 11};
        for (int kind : others) {
            due("kind " + kind, desk.token(kind, LOW), true);
            due("kind " + kind, desk.token(kind, HIGH), true);
        }
        due("eighteen", desk.wipe(), 18);
        for (int i = 0; i < 24; i++) {
            due("token " + i, desk.token(i % 2 == 0 ? 1 : 5, 0), true);
        }
        due("the 25th", desk.token(1, 0), false);
        due("the 25th", desk.token(0, 0), false);
        due("full", desk.wipe(), 24);
        due("after wipe", desk.token(1, 0), true);
    }

    private static void promise3Wipe() {
        about = "promise 3";
        RationalDesk desk = with("x+1");
        due("store", desk.store(2), true);
        due("wipe", desk.wipe(), 3);
        due("wipe again", desk.wipe(), 0);
        result(desk, 6, "11", "1");
        result(desk, 2, "11", "1");
        due("place stays", desk.place(), -1);
        due("no tokens", desk.evaluate(), RationalDesk.SYNTAX);
        due("place", desk.place(), 0);
        desk.wipe();
        due("place after wipe", desk.place(), 0);
    }

    private static void promise4Values() {
        about = "promise 4, values";
        gives("7", "2", "1");
        gives("0", "0", "1");
        gives("x", "10", "1");
        gives("x+1-3", "13", "1");
        gives("x-1-1", "13", "1");
        gives("-x+1", "41", "1");
        gives("-x*x", "400", "1");
        gives("-x^2", "400", "1");
        gives("(-x)^2", "100", "1");
        gives("-(x+1)*2", "33", "1");
        gives("1-(-x)", "11", "1");
        gives("1+2*x", "21", "1");
        gives("x*2+1", "21", "1");
        gives("6/x/x", "1", "100");
        gives("1/x*x", "1", "1");
        gives("1/(2*x)", "3", "10");
        gives("x/(3*x+1)", "20", "12");
        gives("(x^2-1)/(x-1)", "11", "1");
        gives("0/(x+1)", "0", "1");
        gives("x-x", "0", "1");
        gives("1/x+1/(x+1)", "21", "110");
        gives("1/x-1/x", "0", "1");
        gives("x^0", "1", "1");
        gives("0^0", "1", "1");
        gives("0^8", "0", "1");
        gives("x^-2", "1", "100");
        gives("(2*x)^-1", "3", "10");
        gives("2^8", "1", "1");
        gives("3^-8", "1", "1");
        gives("2^-1", "3", "1");
        gives("x^2^3", "1000000", "1");
        gives("x^3'", "300", "1");
        gives("x'^3", "1", "1");
        gives("x^5'", "0", "1");
        gives("x^8''", "1000000", "1");
        gives("4'", "0", "1");
        gives("(1/x)'", "4", "100");
        gives("1/x'", "1", "1");
        gives("(x/(x+1))'", "1", "121");
        gives("x^2@(x+1)", "121", "1");
        gives("x^2@x+1", "101", "1");
        gives("x^2@x^2", "10000", "1");
        gives("x@2^2", "4", "1");
        gives("(1/x)@(1/x)", "10", "1");
        gives("(x+1)@3@x", "4", "1");
        gives("((x+1)/(x+2))@(1/x)", "33", "13");
        gives("3@(1/x)", "3", "1");
        gives("(x^2+1)@(x^4)", "100000001", "1");
        gives("x^8@0", "0", "1");
        gives("(x+1)^-8@2", "1", "1");
        gives("2*x^2@(x+1)'", "44", "1");
        gives("((((((((((x))))))))))", "10", "1");
        negativeNumbers();
    }

    private static void negativeNumbers() {
        about = "negative numbers";
        int[] values = {-1, -5, -7, LOW, HIGH, 12};
        int[] wants = {4, 0, 3, 2, 2, 2};
        for (int i = 0; i < values.length; i++) {
            RationalDesk desk = new RationalDesk();
            desk.token(0, values[i]);
            due("evaluate " + values[i], desk.evaluate(), RationalDesk.OK);
            due("number of " + values[i], desk.number(6, 0, 0), wants[i]);
        }
    }

    private static void promise4Syntax() {
        about = "promise 4, syntax";
        fault("", RationalDesk.SYNTAX, 0);
        fault("-", RationalDesk.SYNTAX, 1);
        fault("--x", RationalDesk.SYNTAX, 1);
        fault("+x", RationalDesk.SYNTAX, 0);
        fault("*x", RationalDesk.SYNTAX, 0);
        fault("^2", RationalDesk.SYNTAX, 0);
        fault("'", RationalDesk.SYNTAX, 0);
        fault("@x", RationalDesk.SYNTAX, 0);
        fault(")", RationalDesk.SYNTAX, 0);
        fault("x)", RationalDesk.SYNTAX, 1);
        fault("(x))+", RationalDesk.SYNTAX, 3);
        fault("()", RationalDesk.SYNTAX, 1);
        fault("(-)", RationalDesk.SYNTAX, 2);
        fault("(", RationalDesk.SYNTAX, 1);
        fault("((((((((((((((((((((((((", RationalDesk.SYNTAX, 24);
        fault("(-x", RationalDesk.SYNTAX, 3);
        fault("x+", RationalDesk.SYNTAX, 2);
        fault("x*-x", RationalDesk.SYNTAX, 2);
        fault("x+-x", RationalDesk.SYNTAX, 2);
        fault("x@-x", RationalDesk.SYNTAX, 2);
        fault("x@", RationalDesk.SYNTAX, 2);
        fault("x@^2", RationalDesk.SYNTAX, 2);
        fault("2x", RationalDesk.SYNTAX, 1);
        fault("xa", RationalDesk.SYNTAX, 1);
        fault("x(x)", RationalDesk.SYNTAX, 1);
        fault("x'x", RationalDesk.SYNTAX, 2);
        fault("(x)(x)", RationalDesk.SYNTAX, 3);
        fault("x^2 2", RationalDesk.SYNTAX, 2);
        // What is no formula has no value, so no fault either.
        fault("1/0)", RationalDesk.SYNTAX, 3);
        fault("a+", RationalDesk.SYNTAX, 2);
        RationalDesk desk = with("x");
        fault(desk, "x+", RationalDesk.SYNTAX, 2);
        due("token", desk.token(1, 0), true);
        due("tokens stay", desk.evaluate(), RationalDesk.OK);
        result(desk, 6, "20", "1");
        due("tokens stay", desk.wipe(), 3);
    }

    private static void promise4Faults() {
        about = "promise 4, faults";
        fault("a", RationalDesk.EMPTY, 0);
        fault("x+f", RationalDesk.EMPTY, 2);
        fault("0*a", RationalDesk.EMPTY, 2);
        fault("a^0", RationalDesk.EMPTY, 0);
        fault("1/0", RationalDesk.ZERO, 1);
        fault("0/0", RationalDesk.ZERO, 1);
        fault("x/(x-x)", RationalDesk.ZERO, 1);
        fault("1/5", RationalDesk.ZERO, 1);
        fault("0^-1", RationalDesk.ZERO, 1);
        fault("(x-x)^-8", RationalDesk.ZERO, 5);
        fault("1/x^5'", RationalDesk.ZERO, 1);
        fault("(1/x)@0", RationalDesk.ZERO, 5);
        fault("(1/x)@(x-x)", RationalDesk.ZERO, 5);
        fault("(1/(x^2+1))@2", RationalDesk.ZERO, 10);
        fault("(1/(x+1)^8)@4", RationalDesk.ZERO, 10);
        RationalDesk desk = with("1/x");
        desk.store(0);
        fault(desk, "a@(2-2)", RationalDesk.ZERO, 1);
        due("the variable stays", desk.degree(0, 1), 1);
        due("poles that cancel are none", evaluate(desk, "(x*a)@0"), RationalDesk.OK);
        result(desk, 6, "1", "1");
    }

    private static void promise4Order() {
        about = "promise 4, order";
        fault("1/0+a", RationalDesk.ZERO, 1);
        fault("1/0*a", RationalDesk.ZERO, 1);
        fault("1/0^2", RationalDesk.ZERO, 1);
        fault("1/0^-2", RationalDesk.ZERO, 3);
        fault("a+1/0", RationalDesk.EMPTY, 0);
        fault("1/a", RationalDesk.EMPTY, 2);
        fault("1/0@a", RationalDesk.EMPTY, 4);
        fault("1+x^8*x-a", RationalDesk.TOO_LARGE, 4);
        fault("x^8+1/x-1/0", RationalDesk.TOO_LARGE, 2);
        fault("x+1/0-a", RationalDesk.ZERO, 3);
        fault("x-x/(1/0)", RationalDesk.ZERO, 6);
        fault("x/(0*a)", RationalDesk.EMPTY, 5);
        fault("-x^8*x", RationalDesk.TOO_LARGE, 3);
        fault("b+a", RationalDesk.EMPTY, 0);
        fault("(1/x)@0@a", RationalDesk.ZERO, 5);
    }

    private static void promise4Sizes() {
        about = "promise 4, sizes";
        gives("x^8", "100000000", "1");
        gives("x^-8", "1", "100000000");
        gives("x^8/(x+1)^8", "100000000", "133101331");
        gives("x^8-x^8", "0", "1");
        gives("x^8/x", "10000000", "1");
        gives("x^8*x^-8", "1", "1");
        gives("1/x^8+1/x", "10000001", "100000000");
        gives("(x^2)^4", "100000000", "1");
        gives("(x^2)^-4", "1", "100000000");
        gives("x^4@(x^2)", "100000000", "1");
        gives("x^-4@(x^-2)", "100000000", "1");
        gives("x^-7'", "3", "100000000");
        gives("(1/x^5)'", "0", "1");
        gives("(1/(x^4+2))'", "1000", "100040004");
        fault("x^8*x", RationalDesk.TOO_LARGE, 2);
        fault("x^8+1/x", RationalDesk.TOO_LARGE, 2);
        fault("1/x^8/x", RationalDesk.TOO_LARGE, 4);
        fault("1/x^8-1/(x+1)", RationalDesk.TOO_LARGE, 4);
        fault("(x^2)^5", RationalDesk.TOO_LARGE, 4);
        fault("(x^2)^-5", RationalDesk.TOO_LARGE, 4);
        fault("(1/(x^5+x))^2", RationalDesk.TOO_LARGE, 10);
        fault("x^3@(x^3)", RationalDesk.TOO_LARGE, 2);
        fault("x^-3@(x^3+1)", RationalDesk.TOO_LARGE, 2);
        fault("x^-8'", RationalDesk.TOO_LARGE, 2);
        fault("(1/(x^6+x+1))'", RationalDesk.TOO_LARGE, 12);
        // Above the limit in between is a fault, even if the rest would bring it back.
        fault("x^8*x/x", RationalDesk.TOO_LARGE, 2);
    }

    private static void promise5Place() {
        about = "promise 5";
        RationalDesk desk = new RationalDesk();
        due("none yet", desk.place(), -1);
        evaluate(desk, "1/0");
        due("a fault", desk.place(), 1);
        desk.wipe();
        desk.token(1, 0);
        desk.token(99, 0);
        desk.store(0);
        due("stays until the next evaluate", desk.place(), 1);
        due("evaluate", desk.evaluate(), RationalDesk.OK);
        due("OK", desk.place(), -1);
        due("evaluate", evaluate(desk, "x+"), RationalDesk.SYNTAX);
        due("the end is missing", desk.place(), 2);
    }

    private static void promise6Store() {
        about = "promise 6";
        RationalDesk desk = new RationalDesk();
        due("no RESULT", desk.store(0), false);
        evaluate(desk, "(x+1)/x");
        for (int n = 0; n <= 5; n++) {
            due("store " + n, desk.store(n), true);
            result(desk, n, "11", "10");
        }
        int[] outside = {-1, 6, 7, LOW, HIGH};
        for (int n : outside) {
            due("store " + n, desk.store(n), false);
        }
        result(desk, 6, "11", "10");
        due("evaluate", evaluate(desk, "a*x"), RationalDesk.OK);
        due("over what was there", desk.store(0), true);
        result(desk, 0, "11", "1");
        result(desk, 1, "11", "10");
        evaluate(desk, "1/0");
        due("no RESULT after a fault", desk.store(1), false);
        result(desk, 1, "11", "10");
        evaluate(desk, "x+");
        due("no RESULT after SYNTAX", desk.store(1), false);
        result(desk, 1, "11", "10");
        due("evaluate", evaluate(desk, "a+b+f"), RationalDesk.OK);
        result(desk, 6, "132", "10");
    }

    private static void promise7Clear() {
        about = "promise 7";
        RationalDesk desk = with("x");
        desk.store(0);
        desk.store(5);
        int[] outside = {-1, 6, 7, LOW, HIGH};
        for (int n : outside) {
            due("clear " + n, desk.clear(n), false);
        }
        result(desk, 6, "10", "1");
        due("nothing there", desk.clear(1), false);
        due("something there", desk.clear(0), true);
        due("not any more", desk.clear(0), false);
        due("degree", desk.degree(0, 0), -2);
        result(desk, 5, "10", "1");
        fault(desk, "f+a", RationalDesk.EMPTY, 2);
        due("store again", desk.store(0), false);
        evaluate(desk, "f");
        due("store again", desk.store(0), true);
        result(desk, 0, "10", "1");
    }

    private static void promise8Degree() {
        about = "promise 8";
        RationalDesk desk = with("(x^3+1)/(x^2+2)");
        due("p", desk.degree(6, 0), 3);
        due("q", desk.degree(6, 1), 2);
        int[] outside = {-1, 7, 8, LOW, HIGH};
        for (int n : outside) {
            due("at " + n, desk.degree(n, 0), -2);
            due("part " + n, desk.degree(6, n), -2);
        }
        due("part 2", desk.degree(6, 2), -2);
        due("nothing there", desk.degree(0, 1), -2);
        evaluate(desk, "x-x");
        due("p of 0", desk.degree(6, 0), -1);
        due("q of 0", desk.degree(6, 1), 0);
    }

    private static void promise9Number() {
        about = "promise 9";
        RationalDesk desk = with("(2*x^8+3)/(x^7+x+4)");
        result(desk, 6, "200000003", "10000014");
        int[] outside = {-1, 9, 10, LOW, HIGH};
        for (int k : outside) {
            due("p at " + k, desk.number(6, 0, k), 0);
            due("q at " + k, desk.number(6, 1, k), 0);
        }
        int[] parts = {-1, 2, LOW, HIGH};
        for (int part : parts) {
            due("part " + part, desk.number(6, part, 0), 0);
        }
        int[] places = {-1, 0, 7, LOW, HIGH};
        for (int at : places) {
            due("at " + at, desk.number(at, 0, 0), 0);
        }
        desk.store(3);
        desk.clear(3);
        due("cleared", desk.number(3, 0, 0), 0);
        evaluate(desk, "1/0");
        due("no RESULT", desk.number(6, 0, 0), 0);
    }

    private static void promise10Value() {
        about = "promise 10";
        // This is 1/(x+3): where x is 3 the reduced form has a value.
        RationalDesk desk = with("(x+2)/(x^2+1)");
        int[] at = {0, 1, 2, 3, 4, 5, -1, 7, -2, LOW, HIGH};
        int[] wants = {2, 4, RationalDesk.POLE, 1, 3, 2, 3, RationalDesk.POLE, 1, RationalDesk.POLE, RationalDesk.POLE};
        for (int i = 0; i < at.length; i++) {
            due("value at " + at[i], desk.value(6, at[i]), wants[i]);
        }
        int[] places = {-1, 0, 7, LOW, HIGH};
        for (int place : places) {
            due("at " + place, desk.value(place, 1), -1);
        }
        desk.store(4);
        due("stored", desk.value(4, 4), 3);
        evaluate(desk, "x^5-x");
        for (int v = -5; v <= 5; v++) {
            due("0 everywhere, but not 0, at " + v, desk.value(6, v), 0);
        }
        evaluate(desk, "x/x^2");
        due("a pole", desk.value(6, 5), RationalDesk.POLE);
        evaluate(desk, "a");
        due("no RESULT", desk.value(6, 1), -1);
        due("still stored", desk.value(4, 4), 3);
    }

    private static void promise11Factors() {
        about = "promise 11";
        RationalDesk desk = with("3*x^2*(x+1)/(x^2+2)");
        due("p", desk.factors(6, 0), 2);
        due("q", desk.factors(6, 1), 1);
        int[] outside = {-1, 2, LOW, HIGH};
        for (int part : outside) {
            due("part " + part, desk.factors(6, part), -1);
        }
        int[] places = {-1, 0, 7, LOW, HIGH};
        for (int at : places) {
            due("at " + at, desk.factors(at, 0), -1);
            due("at " + at, desk.factors(at, 1), -1);
        }
        evaluate(desk, "3");
        due("a number", desk.factors(6, 0), 0);
        due("q is 1", desk.factors(6, 1), 0);
        evaluate(desk, "x-x");
        due("p is 0", desk.factors(6, 0), -1);
        due("p is 0, asked for q", desk.factors(6, 1), -1);
        evaluate(desk, "x^5-x");
        due("all of degree 1", desk.factors(6, 0), 5);
        evaluate(desk, "(x^5-x)*(x^2+2)");
        due("one more", desk.factors(6, 0), 6);
    }

    private static void promise12To14EachFactor() {
        about = "promises 12 to 14";
        RationalDesk desk = with("(2*x+1)*x^3/(x^5-1)");
        // 1 - x^5 is (1 - x)^5.
        oneFactor(desk, 6, 0, 0, "10", 3);
        oneFactor(desk, 6, 0, 1, "13", 1);
        oneFactor(desk, 6, 1, 0, "14", 5);
        noFactors(desk, 6, 0, 2);
        noFactors(desk, 6, 1, 1);
        noFactors(desk, 6, 2, 0);
        noFactors(desk, 6, -1, 0);
        noFactors(desk, 0, 0, 0);
        noFactors(desk, 7, 0, 0);
        noFactors(desk, -1, 1, 0);
        int[] powers = {-1, 9, LOW, HIGH};
        for (int k : powers) {
            due("factor at " + k, desk.factor(6, 0, 0, k), 0);
        }

        desk = with("x^5-x");
        for (int i = 0; i < 5; i++) {
            oneFactor(desk, 6, 0, i, "1" + i, 1);
        }

        about = "order within a degree";
        desk = with("(x^2+x+1)*(x^2+3)");
        desk.store(0);
        evaluate(desk, "a*(x^2+x+2)*(x^2+2)");
        due("factors", desk.factors(6, 0), 4);
        oneFactor(desk, 6, 0, 0, "102", 1);
        oneFactor(desk, 6, 0, 1, "103", 1);
        oneFactor(desk, 6, 0, 2, "111", 1);
        oneFactor(desk, 6, 0, 3, "112", 1);

        about = "half the degree and more";
        desk = with("4*(x^4+3)*(x^4+2)");
        oneFactor(desk, 6, 0, 0, "10002", 1);
        oneFactor(desk, 6, 0, 1, "10003", 1);
        noFactors(desk, 6, 0, 2);
        desk = with("1/(x^4+2)^2");
        oneFactor(desk, 6, 1, 0, "10002", 2);
        noFactors(desk, 6, 1, 1);
        desk = with("2*x^8+1");
        oneFactor(desk, 6, 0, 0, "100000003", 1);
        noFactors(desk, 6, 0, 1);
        desk = with("x^8");
        oneFactor(desk, 6, 0, 0, "10", 8);

        about = "no factors";
        desk = with("2");
        noFactors(desk, 6, 0, 0);
        noFactors(desk, 6, 1, 0);
        desk = with("0");
        noFactors(desk, 6, 0, 0);
        noFactors(desk, 6, 1, 0);
    }

    private static void promise15Fraction() {
        about = "promise 15";
        RationalDesk desk = with("x/(x^2-1)");
        fractionIs(desk, -1, 0, "0");
        fractionIs(desk, 0, 1, "3");
        fractionIs(desk, 1, 1, "3");
        int[] outside = {-2, 2, 3, 8, LOW, HIGH};
        for (int i : outside) {
            fractionIs(desk, i, 1, "0");
        }
        int[] powers = {0, -1, 2, 9, LOW, HIGH};
        for (int j : powers) {
            fractionIs(desk, 0, j, "0");
            fractionIs(desk, 1, j, "0");
        }
        int[] places = {-1, 0, 7, LOW, HIGH};
        for (int at : places) {
            due("at " + at, desk.fraction(at, 0, 1, 0), 0);
            due("at " + at, desk.fraction(at, -1, 1, 0), 0);
        }
        int[] far = {LOW, HIGH};
        for (int k : far) {
            due("k " + k, desk.fraction(6, 0, 1, k), 0);
            due("k " + k, desk.fraction(6, -1, 1, k), 0);
        }

        about = "with a polynomial";
        desk = with("x^8/(x^2+2)");
        for (int j : powers) {
            fractionIs(desk, -1, j, "1030402");
        }
        fractionIs(desk, 0, 1, "1");
        desk = with("3*x^8+x+2");
        fractionIs(desk, -1, 1, "300000012");
        fractionIs(desk, 0, 1, "0");
        desk = with("0");
        fractionIs(desk, -1, 1, "0");
        fractionIs(desk, 0, 1, "0");

        about = "powers of a factor";
        desk = with("(x^3+x)/(x^2+2)^2");
        fractionIs(desk, 0, 1, "10");
        fractionIs(desk, 0, 2, "40");
        fractionIs(desk, 0, 3, "0");
        desk = with("x^7/(x+1)^8");
        String[] wants = {"0", "1", "3", "1", "0", "0", "4", "2", "4", "0"};
        for (int j = 0; j <= 9; j++) {
            fractionIs(desk, 0, j, wants[j]);
        }

        about = "factors of high degree";
        desk = with("(x^7+2)/(x^8+3)");
        fractionIs(desk, 0, 1, "10000002");
        desk = with("1/(x^4+2)/(x^4+3)");
        fractionIs(desk, 0, 1, "1");
        fractionIs(desk, 1, 1, "4");
        desk.store(0);
        evaluate(desk, "x");
        due("of a variable", desk.fraction(0, 1, 1, 0), 4);
    }

    private static void promise16RefusedChangesNothing() {
        about = "promise 16";
        RationalDesk desk = with("1/x");
        desk.store(1);
        evaluate(desk, "x+3");
        desk.token(5, 0);
        refuseAll(desk);
        result(desk, 1, "1", "10");
        result(desk, 6, "13", "1");
        due("place", desk.place(), -1);
        due("evaluate", desk.evaluate(), RationalDesk.SYNTAX);
        refuseAll(desk);
        due("store", desk.store(0), false);
        due("place", desk.place(), 4);
        result(desk, 1, "1", "10");
        due("number of an unknown part", desk.number(1, 2, 1), 0);
        due("number of an unknown part", desk.number(1, -1, 1), 0);
        due("wipe", desk.wipe(), 4);
    }

    private static void refuseAll(RationalDesk desk) {
        due("token", desk.token(12, 0), false);
        due("token", desk.token(2, 6), false);
        due("token", desk.token(9, 9), false);
        due("store", desk.store(6), false);
        due("clear", desk.clear(6), false);
        due("clear", desk.clear(0), false);
        due("degree", desk.degree(1, 2), -2);
        due("value", desk.value(0, 0), -1);
        due("factors", desk.factors(1, 2), -1);
        due("factorDegree", desk.factorDegree(1, 1, 1), -1);
    }
}
