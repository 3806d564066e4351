/**
 * One test for each sentence of the document that names a boundary case: the last value inside, the first one
 * outside, the empty and the full case, the smallest and the greatest int. What a refused call leaves as it was is
 * the matter of RefusalsTest.
 */
public final class BoundariesTest extends Checks {
    private static final int OK = RationalDesk.OK, SYNTAX = RationalDesk.SYNTAX, EMPTY = RationalDesk.EMPTY;
    private static final int ZERO = RationalDesk.ZERO, TOO_LARGE = RationalDesk.TOO_LARGE, POLE = RationalDesk.POLE;
    /** Twenty-four tokens, the most there can be: a sign, twelve times x, eleven signs between them. */
    private static final String FULL = "-x+x+x+x+x+x+x+x+x+x+x-x";

    public static void main(String[] args) {
        terms();
        values();
        sizes();
        factorsAndFractions();
        promises1To5();
        promises6To10();
        promises11To15();
        end();
    }

    private static void terms() {
        objectIsUsedFor512Calls();
        numbersAreModulo5();
        sumsAndProductsWrapAround();
        degreeOfThePolynomial0();
        reducedFormIsMonic();
        reducedFormHasNoCommonDivisor();
        reducedFormOf0();
        valueIsLookedAtForThreeKinds();
        signBeforeTheFirstTerm();
        signBelongsToTheFirstTermAlone();
        repeatedPartsOfTheGrammar();
        formulasOfAll24Tokens();
    }

    private static void values() {
        firstFaultEndsIt();
        faultOfAnEmptyVariable();
        faultOfADivisionBy0();
        powerWithExponent0();
        powersAtBothEndsOfTheExponents();
        powerBelow0Of0();
        derivativeOfPowersThatWrapAround();
        derivativeOfQuotients();
        numberInThePlaceOfX();
        poleThatIsGoneFromTheReducedForm();
        functionInThePlaceOfXIsNoNumber();
    }

    private static void sizes() {
        sizeIsAtLeast0();
        sizeOfSums();
        sizeOfDifferences();
        sizeOfProducts();
        sizeOfQuotients();
        sizeOfPowers();
        sizeOfDerivatives();
        sizeOfCompositions();
        sizeOfTheResultIsThatOfTheReducedForm();
        zeroIsTestedFirst();
    }

    private static void factorsAndFractions() {
        numbersHaveNoFactors();
        factorsFromTheFewestToTheMost();
        factorsByRisingDegree();
        factorsOfTheSameDegree();
        fractionsHaveLowerDegreesThanTheirFactors();
        fractionsOfFactorsOfEachDegree();
        placesAre0To6();
    }

    private static void promises1To5() {
        newObjectHasNothing();
        tokenKinds();
        tokenVariables();
        tokenExponents();
        tokenNumbersAreAnyInt();
        tokensAreAtMost24();
        wipeOfNoneAndOfAll();
        evaluateLeavesTheTokens();
        syntaxAtEachPlace();
        syntaxWhereTheEndIsMissing();
        noResultAfterAFault();
        placeBeforeAnyEvaluate();
        placeAfterOk();
        placeFromTheFirstToTheLastToken();
    }

    private static void promises6To10() {
        storeFrom0To5();
        storeAndClearLeaveTheOthers();
        storeWithoutResult();
        clearFrom0To5();
        clearOfNothing();
        degreeFromTheSmallestToTheGreatest();
        degreeOfNothingOrOfNoPart();
        numberFrom0To8();
        numberOfNothingOrOfNoPart();
        valueAtAnyInt();
        valueAtPoles();
        valueOfNothing();
    }

    private static void promises11To15() {
        factorsOfNothingOrOfNoPart();
        factorsOf0();
        factorDegreeOfNone();
        factorOfNone();
        factorNumbersFrom0To8();
        powerOfNone();
        powersFrom1To8();
        fractionOfNothing();
        fractionOfNoSuchFactor();
        fractionOfNoSuchPower();
        fractionOfThePolynomialWithAnyPower();
        fractionNumbersFrom0To8();
    }

    // ---- Terms: objects, numbers, polynomials, reduced forms ----

    private static void objectIsUsedFor512Calls() {
        about = "An object is used for at most 512 calls after it has been made";
        RationalDesk desk = new RationalDesk();
        for (int i = 0; i < 85; i++) {
            due("wipe", desk.wipe(), i == 0 ? 0 : 3);
            due("token", desk.token(1, i), true);
            due("token", desk.token(5, i), true);
            due("token", desk.token(0, i), true);
            due("evaluate", desk.evaluate(), OK);
            due("value", desk.value(6, i), 2 * i % 5);
        }
        due("call 511", desk.place(), -1);
        due("call 512", desk.number(6, 0, 0), 84 % 5);
    }

    private static void numbersAreModulo5() {
        about = "All numbers are modulo 5, shown as 0..4 (a negative number stands for what it is modulo 5)";
        for (int n = -11; n <= 11; n++) {
            numberIsShownAs(n, Math.floorMod(n, 5));
        }
        numberIsShownAs(LOW, 2);
        numberIsShownAs(LOW + 1, 3);
        numberIsShownAs(LOW + 2, 4);
        numberIsShownAs(LOW + 3, 0);
        numberIsShownAs(HIGH, 2);
        numberIsShownAs(HIGH - 1, 1);
        numberIsShownAs(HIGH - 2, 0);
        numberIsShownAs(HIGH - 3, 4);
    }

    private static void numberIsShownAs(int n, int want) {
        RationalDesk desk = new RationalDesk();
        desk.token(0, n);
        due("evaluate " + n, desk.evaluate(), OK);
        due("number of " + n, desk.number(6, 0, 0), want);
        due("degree of " + n, desk.degree(6, 0), want == 0 ? -1 : 0);
        due("value of " + n, desk.value(6, n), want);
    }

    private static void sumsAndProductsWrapAround() {
        about = "All numbers are modulo 5, of sums, differences, products and quotients too";
        for (int a = 0; a < 5; a++) {
            for (int b = 0; b < 5; b++) {
                gives(a + "+" + b, "" + (a + b) % 5, "1");
                gives(a + "-" + b, "" + (a + 5 - b) % 5, "1");
                gives(a + "*" + b, "" + a * b % 5, "1");
                // b * b * b is 1 / b, as b to the fourth is 1.
                if (b > 0) {
                    gives(a + "/" + b, "" + a * b * b * b % 5, "1");
                }
            }
        }
        gives("4*x+x", "0", "1");
        gives("3*x-4*x", "40", "1");
        gives("(4*x+4)*(4*x+4)", "121", "1");
    }

    private static void degreeOfThePolynomial0() {
        about = "its DEGREE is the greatest k with ck not 0 (-1 for the polynomial 0)";
        due("0", with("0").degree(6, 0), -1);
        due("5", with("5").degree(6, 0), -1);
        due("x - x", with("x-x").degree(6, 0), -1);
        due("1", with("1").degree(6, 0), 0);
        due("x", with("x").degree(6, 0), 1);
        due("x^8", with("x^8").degree(6, 0), 8);
        due("5 x^8 + x", with("5*x^8+x").degree(6, 0), 1);
    }

    private static void reducedFormIsMonic() {
        about = "Each has one REDUCED form p / q: q is monic";
        int[] inverse = {0, 1, 3, 2, 4};
        for (int c = 1; c < 5; c++) {
            for (int d = 1; d < 5; d++) {
                String p = "" + c * inverse[d] % 5;
                gives(c + "/(" + d + "*x)", p, "10");
                gives(c + "*x^8/(" + d + "*x^8+" + d + ")", p + "00000000", "100000001");
                gives(c + "/" + d, p, "1");
            }
        }
    }

    private static void reducedFormHasNoCommonDivisor() {
        about = "no polynomial of degree 1 or more divides both";
        gives("x^8/x^8", "1", "1");
        gives("x^8/x^7", "10", "1");
        gives("x^7/x^8", "1", "10");
        gives("(x^4+2)^2/(x^4+2)", "10002", "1");
        gives("(x^4+2)/(x^4+2)^2", "1", "10002");
        gives("(x^8+3)/(x^8+3)", "1", "1");
        gives("(x^5-x)/(x^2-1)", "1010", "1");
        gives("(x+1)^8/(x+1)^7/2", "33", "1");
        gives("(x^8+3)/(x^8+2)", "100000003", "100000002");
        gives("x^8/(x+1)^8", "100000000", "133101331");
        gives("(x^2-1)/(x^2+x)", "14", "10");
    }

    private static void reducedFormOf0() {
        about = "(0 has 0 / 1)";
        gives("0", "0", "1");
        gives("-5", "0", "1");
        gives("0/x^8", "0", "1");
        gives("0*x^-8", "0", "1");
        gives("x^-8-x^-8", "0", "1");
        gives("(x-x)/(x^8+3)", "0", "1");
        gives("-(x-x)", "0", "1");
        gives("0@(x^-8)", "0", "1");
        gives("(1/x^5)'", "0", "1");
    }

    // ---- Terms: tokens and grammar ----

    private static void valueIsLookedAtForThreeKinds() {
        about = "kind and value (looked at for 0, 2, 9 alone)";
        int[] any = {LOW, -9, -1, 0, 5, 6, 8, 9, HIGH};
        int[] kinds = {6, 3, 1, 5, 1, 4, 7, 1, 8, 1, 6, 1, 10, 11, 1};
        for (int value : any) {
            RationalDesk desk = new RationalDesk();
            for (int kind : kinds) {
                due("kind " + kind + " with " + value, desk.token(kind, value), true);
            }
            due("evaluate with " + value, desk.evaluate(), OK);
            // -(x+x)*x/x-x'@x
            result(desk, 6, "34", "1");
        }
    }

    private static void signBeforeTheFirstTerm() {
        about = "E = [ \"-\" ] T { (\"+\" | \"-\") T }";
        gives("x", "10", "1");
        gives("-x", "40", "1");
        gives("(-x)", "40", "1");
        gives("-(-x)", "10", "1");
        gives("x-(-x)", "20", "1");
        gives("x@(-1)", "4", "1");
        fault("--x", SYNTAX, 1);
        fault("(--x)", SYNTAX, 2);
        fault("x+-x", SYNTAX, 2);
        fault("x--x", SYNTAX, 2);
        fault("x*-x", SYNTAX, 2);
        fault("x/-x", SYNTAX, 2);
        fault("x@-x", SYNTAX, 2);
        fault("+x", SYNTAX, 0);
        fault("(+x)", SYNTAX, 1);
    }

    private static void signBelongsToTheFirstTermAlone() {
        about = "A sign - in front of E's first T belongs to that T alone";
        gives("-1+2", "1", "1");
        gives("-1-2", "2", "1");
        gives("-x+x", "0", "1");
        gives("-x*x+1", "401", "1");
        gives("-2*x/x^2", "3", "10");
        gives("-x^2", "400", "1");
        gives("-x^2'", "30", "1");
        gives("-x^2@(-x)", "400", "1");
        gives("(-x+1)*x", "410", "1");
    }

    private static void repeatedPartsOfTheGrammar() {
        about = "T = F { (\"*\" | \"/\") F }     F = A { \"'\" | \"^\" | \"@\" A }     A = NUM | X | VAR | \"(\" E \")\"";
        gives("1-2-3", "1", "1");
        gives("2/3/4", "1", "1");
        gives("2/3*4", "1", "1");
        gives("2-3+4", "3", "1");
        gives("x^2^4", "100000000", "1");
        gives("x^4''", "200", "1");
        gives("x^4'^2", "1000000", "1");
        gives("x^2@(x+1)@(x+1)", "144", "1");
        gives("x^2@x^3'", "100000", "1");
        gives("x@2@3", "2", "1");
        gives("(x+1)@x^2", "121", "1");
        gives("(x+1)@(x)^2", "121", "1");
        gives("x^2@(x+1)'", "22", "1");
        gives("((x))", "10", "1");
        fault("x x", SYNTAX, 1);
        fault("x 1", SYNTAX, 1);
        fault("x a", SYNTAX, 1);
        fault("x(x)", SYNTAX, 1);
        fault("x' x", SYNTAX, 2);
        fault("x^2 x", SYNTAX, 2);
        fault("(x)(x)", SYNTAX, 3);
        fault("x@@x", SYNTAX, 2);
        fault("x@'", SYNTAX, 2);
        fault("x**x", SYNTAX, 2);
        fault("()", SYNTAX, 1);
    }

    private static void formulasOfAll24Tokens() {
        about = "formulas of 24 tokens, as many as there can be";
        ofAllTokens(FULL, "30");
        ofAllTokens("x" + "^1".repeat(23), "10");
        ofAllTokens("x" + "'".repeat(23), "0");
        ofAllTokens("(".repeat(11) + "-x" + ")".repeat(11), "40");
        ofAllTokens("-(-(-(-(-(-(-(x)))))))^1'", "4");
        ofAllTokens("x+x*x@(x+x*x@(x+x*x@x))'", "3220");
        ofAllTokens("1+(1+(1+(1+(1+(x@x)))))'", "2");
        ofAllTokens("x@x@x@x@x@x@x@x@x@x@x@x'", "1");
    }

    private static void ofAllTokens(String formula, String p) {
        RationalDesk desk = with(formula);
        result(desk, 6, p, "1");
        due("tokens of " + formula, desk.wipe(), 24);
    }

    // ---- VALUE ----

    private static void firstFaultEndsIt() {
        about = "the first FAULT ends it, at the token of the operator (or VAR)";
        fault("a+b", EMPTY, 0);
        fault("1/0+a", ZERO, 1);
        fault("a+1/0", EMPTY, 0);
        fault("1/0+0^-1", ZERO, 1);
        fault("0^-1+1/0", ZERO, 1);
        fault("x^8*x+1/0", TOO_LARGE, 2);
        fault("1/0+x^8*x", ZERO, 1);
        fault("x+x^8*x*a", TOO_LARGE, 4);
        // An operator is worked out when its operands are, so those on its right come before it.
        fault("1/(0*a)", EMPTY, 5);
        fault("0^-1/a", ZERO, 1);
        fault("1/0^-1", ZERO, 3);
        fault("1/0@a", EMPTY, 4);
        fault("(1/x)@(0^-1)", ZERO, 8);
        fault("(1/x)@0@a", ZERO, 5);
        fault("x^8+1/0", ZERO, 4);
    }

    private static void faultOfAnEmptyVariable() {
        about = "VAR: EMPTY if nothing is stored there";
        for (int n = 0; n <= 5; n++) {
            String name = "" + (char) ('a' + n);
            fault(name, EMPTY, 0);
            fault("0*" + name, EMPTY, 2);
            fault(name + "^0", EMPTY, 0);
            fault("-x+x@(" + name + ")", EMPTY, 6);
            RationalDesk desk = with("0");
            desk.store(n);
            due("0 is something", evaluate(desk, name + "+x"), OK);
            result(desk, 6, "10", "1");
            desk.clear(n);
            fault(desk, "x+" + name, EMPTY, 2);
        }
    }

    private static void faultOfADivisionBy0() {
        about = "A / B: ZERO if B is 0";
        fault("1/0", ZERO, 1);
        fault("0/0", ZERO, 1);
        fault("x/5", ZERO, 1);
        fault("x^8/(x-x)", ZERO, 2);
        fault("x/(0/x)", ZERO, 1);
        fault("x/(-0)", ZERO, 1);
        fault("x/x^5'", ZERO, 1);
        fault("x/2*3/0", ZERO, 5);
        gives("0/1", "0", "1");
        gives("0/x", "0", "1");
        // It is 0 at each number, but it isn't 0.
        gives("x/(x^5-x)", "1", "10004");
        RationalDesk desk = new RationalDesk();
        desk.token(1, 0);
        desk.token(8, 0);
        desk.token(0, LOW + 3);
        due("a multiple of 5", desk.evaluate(), ZERO);
        due("its place", desk.place(), 1);
    }

    private static void powerWithExponent0() {
        about = "A ^ n: (1 for n = 0, whatever A is)";
        gives("0^0", "1", "1");
        gives("5^0", "1", "1");
        gives("3^0", "1", "1");
        gives("x^0", "1", "1");
        gives("(x-x)^0", "1", "1");
        gives("x^8^0", "1", "1");
        gives("x^-8^0", "1", "1");
        gives("((x^8+3)/(x^8+2))^0", "1", "1");
    }

    private static void powersAtBothEndsOfTheExponents() {
        about = "A ^ n: n times A as a factor, for n below 0 (1 / A) ^ -n";
        gives("x^1", "10", "1");
        gives("x^-1", "1", "10");
        gives("x^8", "100000000", "1");
        gives("x^-8", "1", "100000000");
        gives("(2*x)^7", "30000000", "1");
        gives("(2*x)^-7", "2", "10000000");
        gives("(2*x/(x+1))^-2", "434", "100");
        gives("2^-8", "1", "1");
        gives("2^-7", "2", "1");
        gives("0^1", "0", "1");
        gives("0^8", "0", "1");
        gives("(x+1)^8", "133101331", "1");
        gives("(x+1)^-8", "1", "133101331");
    }

    private static void powerBelow0Of0() {
        about = "for n below 0: ZERO if A is 0";
        for (int n = 1; n <= 8; n++) {
            fault("0^-" + n, ZERO, 1);
            fault("x-(x-x)^-" + n, ZERO, 7);
            gives("0^" + n, "0", "1");
        }
        gives("(x^5-x)^-1", "1", "100040");
    }

    private static void derivativeOfPowersThatWrapAround() {
        about = "A ': the derivative by the rules of powers and sums";
        gives("0'", "0", "1");
        gives("4'", "0", "1");
        gives("x'", "1", "1");
        gives("x^4'", "4000", "1");
        gives("x^5'", "0", "1");
        gives("x^6'", "100000", "1");
        gives("x^8'", "30000000", "1");
        gives("(x^8+x^7+x^6+x^5+x^4)'", "32104000", "1");
        gives("x^8'''", "100000", "1");
        gives("x^8''''", "0", "1");
    }

    private static void derivativeOfQuotients() {
        about = "A ': the derivative by the rule of quotients";
        gives("x^-1'", "4", "100");
        gives("x^-5'", "0", "1");
        gives("x^-7'", "3", "100000000");
        gives("(1/(x^5+1))'", "0", "1");
        gives("(x/(x^5+2))'", "1", "100002");
        gives("(x^5/(x+1))'", "400000", "121");
        gives("(1/(x+1)^4)'", "1", "100001");
        gives("((x+1)/(x+2))'", "1", "144");
    }

    private static void numberInThePlaceOfX() {
        about = "A @ B: ZERO if that divides by 0: if B is a number at which A's reduced q is 0";
        for (int root = 0; root < 5; root++) {
            for (int v = 0; v < 5; v++) {
                String formula = "(1/(x-" + root + "))@" + v;
                if (root == v) {
                    fault(formula, ZERO, 9);
                } else {
                    int d = (v + 5 - root) % 5;
                    gives(formula, "" + d * d * d % 5, "1");
                }
            }
        }
        fault("x^-8@0", ZERO, 2);
        fault("x^-8@5", ZERO, 2);
        fault("x^-1@(x-x)", ZERO, 2);
        fault("x^-1@(x/x-1)", ZERO, 2);
        fault("(x^5-x)^-1@3", ZERO, 7);
        fault("x^-1@1@0+x^-1@0", ZERO, 9);
        // No number is a root of x^2 + 2.
        for (int v = 0; v < 5; v++) {
            int d = (v * v + 2) % 5;
            gives("(1/(x^2+2))@" + v, "" + d * d * d % 5, "1");
        }
        gives("0@0", "0", "1");
        gives("x@0", "0", "1");
        gives("3@0", "3", "1");
    }

    private static void poleThatIsGoneFromTheReducedForm() {
        about = "A @ B: ZERO if B is a number at which A's reduced q is 0, not another form's";
        gives("(x^2/x)@0", "0", "1");
        gives("((x^2-1)/(x-1))@1", "2", "1");
        gives("(x/x)@0", "1", "1");
        gives("(x*x^-1)@0", "1", "1");
        gives("(x^-1-x^-1)@0", "0", "1");
        fault("(x/x^2)@0", ZERO, 6);
    }

    private static void functionInThePlaceOfXIsNoNumber() {
        about = "A @ B: A with B in the place of x";
        gives("x^-1@x", "1", "10");
        gives("x^-1@(x^-1)", "10", "1");
        // 0 at each number, but no number.
        gives("x^-1@(x^5-x)", "1", "100040");
        gives("(1/(x^2+1))@(x^-2)", "10000", "10001");
        gives("(1/(x-1))@((x+1)/x)", "10", "1");
        gives("((x+1)/(x+2))@(1/x)", "33", "13");
        gives("(x^2/(x^3+1))@(1/x)", "10", "1001");
        gives("(x^3/(x^2+1))@(1/x)", "1", "1010");
        gives("x@(x+1)", "11", "1");
        gives("(x+1)@x", "11", "1");
    }

    // ---- sizes ----

    private static void sizeIsAtLeast0() {
        about = "Its SIZE is the greater of the degrees of p and q then, at least 0";
        gives("0@(x^8)", "0", "1");
        gives("0@(x^-8)", "0", "1");
        gives("x^8@0", "0", "1");
        gives("0^8", "0", "1");
        gives("0*x^8", "0", "1");
        gives("0+x^8", "100000000", "1");
        gives("x^-8+0", "1", "100000000");
        // The degrees of p and q are 7 and 8, then 8 and 7.
        gives("(x^7+1)/x^8", "10000001", "100000000");
        gives("(x^8+1)/x^7", "100000001", "10000000");
        fault("(x^7+1)/x^8*((x+2)/(x+3))", TOO_LARGE, 9);
        fault("(x^8+1)/x^7*((x+1)/(x+4))", TOO_LARGE, 9);
    }

    private static void sizeOfSums() {
        about = "TOO_LARGE: if the size of the result would be above 8 (+)";
        gives("x^7+1/x", "100000001", "10");
        fault("x^8+1/x", TOO_LARGE, 2);
        gives("1/x^4+1/(x^4+2)", "20002", "100020000");
        fault("1/x^4+1/(x^5+2)", TOO_LARGE, 4);
        fault("1/x+x^8", TOO_LARGE, 3);
        fault("x^-8+(x^8+2)^-1", TOO_LARGE, 2);
        gives("x^8+x^8", "200000000", "1");
        gives("x^8+4*x^8", "0", "1");
        gives("x^-8+x^8^-1", "2", "100000000");
        gives("x^-8+x^-7", "11", "100000000");
    }

    private static void sizeOfDifferences() {
        about = "TOO_LARGE: if the size of the result would be above 8 (-)";
        gives("x^7-1/x", "100000004", "10");
        fault("x^8-1/x", TOO_LARGE, 2);
        gives("1/x^4-1/(x^4+2)", "2", "100020000");
        fault("1/x^4-1/(x^5+2)", TOO_LARGE, 4);
        gives("x^8-x^8", "0", "1");
        gives("-x^8-x^8", "300000000", "1");
        gives("-x^-8", "4", "100000000");
        fault("-x^8-x^-8", TOO_LARGE, 3);
    }

    private static void sizeOfProducts() {
        about = "TOO_LARGE: if the size of the result would be above 8 (*)";
        gives("x^4*x^4", "100000000", "1");
        fault("x^4*x^5", TOO_LARGE, 2);
        gives("x^-4*x^-4", "1", "100000000");
        fault("x^-4*x^-5", TOO_LARGE, 2);
        gives("x^8*(x+1)^-8", "100000000", "133101331");
        fault("x^8*x^8", TOO_LARGE, 2);
        fault("x^-8*x^-8", TOO_LARGE, 2);
        gives("x^8*3", "300000000", "1");
        gives("x^8*x^-1", "10000000", "1");
        fault("x^8*x/x", TOO_LARGE, 2);
    }

    private static void sizeOfQuotients() {
        about = "TOO_LARGE: if the size of the result would be above 8 (/)";
        gives("x^4/x^-4", "100000000", "1");
        fault("x^4/x^-5", TOO_LARGE, 2);
        gives("x^-4/x^4", "1", "100000000");
        fault("x^-4/x^5", TOO_LARGE, 2);
        fault("x^8/x^-8", TOO_LARGE, 2);
        fault("x^-8/x^8", TOO_LARGE, 2);
        gives("1/x^8", "1", "100000000");
        gives("x^8/(x^8+2)", "100000000", "100000002");
        gives("x^8/x", "10000000", "1");
        fault("x^-8/x", TOO_LARGE, 2);
    }

    private static void sizeOfPowers() {
        about = "TOO_LARGE: if the size of the result would be above 8 (^)";
        gives("x^2^4", "100000000", "1");
        fault("x^2^5", TOO_LARGE, 2);
        fault("x^3^3", TOO_LARGE, 2);
        gives("x^2^-4", "1", "100000000");
        fault("x^2^-5", TOO_LARGE, 2);
        fault("x^3^-3", TOO_LARGE, 2);
        gives("x^-2^-4", "100000000", "1");
        fault("x^-2^-5", TOO_LARGE, 2);
        gives("x^8^1", "100000000", "1");
        gives("x^8^-1", "1", "100000000");
        fault("x^8^2", TOO_LARGE, 2);
        fault("x^8^8", TOO_LARGE, 2);
        fault("x^-8^-8", TOO_LARGE, 2);
        // p's degree counts as well as q's.
        gives("(x/(x^4+2))^2", "100", "100040004");
        gives("(x^4/(x+1))^2", "100000000", "121");
        fault("(x/(x^5+2))^2", TOO_LARGE, 10);
        fault("(x^5/(x+1))^2", TOO_LARGE, 10);
        gives("3^8", "1", "1");
    }

    private static void sizeOfDerivatives() {
        about = "TOO_LARGE: if the size of the result would be above 8 (')";
        gives("x^-7'", "3", "100000000");
        fault("x^-8'", TOO_LARGE, 2);
        gives("(1/(x^4+x))'", "1004", "100200100");
        fault("(1/(x^5+x))'", TOO_LARGE, 10);
        fault("(1/(x^8+2))'", TOO_LARGE, 10);
        gives("(x^8/(x+1))'", "230000000", "121");
    }

    private static void sizeOfCompositions() {
        about = "TOO_LARGE: for A @ B if the product of both sizes is above 8";
        gives("x@(x^8)", "100000000", "1");
        gives("x^8@x", "100000000", "1");
        gives("x^8@(x+1)", "133101331", "1");
        gives("x^2@(x^4)", "100000000", "1");
        gives("x^4@(x^2)", "100000000", "1");
        gives("x^-4@(x^-2)", "100000000", "1");
        gives("x^-2@(x^4)", "1", "100000000");
        gives("x^-8@x^1", "1", "100000000");
        fault("x^3@(x^3)", TOO_LARGE, 2);
        fault("x^-3@(x^3)", TOO_LARGE, 2);
        fault("x^3@(x^-3)", TOO_LARGE, 2);
        fault("x^5@(x^2)", TOO_LARGE, 2);
        fault("x^2@(x^5)", TOO_LARGE, 2);
        fault("x^2@(x^8)", TOO_LARGE, 2);
        fault("x^8@(x^2)", TOO_LARGE, 2);
        fault("x^8@(x^8)", TOO_LARGE, 2);
        // A number has size 0, whatever the other size is.
        gives("x^8@2", "1", "1");
        gives("2@(x^8)", "2", "1");
        gives("x^-8@2", "1", "1");
        gives("(x^8+x)@3", "4", "1");
    }

    private static void sizeOfTheResultIsThatOfTheReducedForm() {
        about = "the size of the result: the greater of the degrees of its reduced form";
        gives("x^8*x^-8", "1", "1");
        gives("x^8/x^8", "1", "1");
        gives("(x^8+3)*(x^8+3)^-1", "1", "1");
        gives("x^-8-x^-8", "0", "1");
        gives("x^-8+4*x^-8", "0", "1");
        gives("(x+1)^-8+(x+1)^-8", "2", "133101331");
        gives("(x^5+x)^-1*x", "1", "10001");
        gives("1/(x^4-1)+1/(x^5-x)", "1", "14140");
    }

    private static void zeroIsTestedFirst() {
        about = "ZERO is tested first";
        fault("x^8/0", ZERO, 2);
        fault("x^-8/0", ZERO, 2);
        fault("0^-8", ZERO, 1);
        fault("x^-8@0", ZERO, 2);
        fault("(x^8+x)^-1@0", ZERO, 7);
    }

    // ---- FACTORS, PARTIAL FRACTIONS, PLACES ----

    private static void numbersHaveNoFactors() {
        about = "polynomials of degree 1 or more: its FACTORS";
        for (int c = 1; c < 5; c++) {
            RationalDesk desk = with("" + c);
            due("factors of " + c, desk.factors(6, 0), 0);
            due("factors of 1", desk.factors(6, 1), 0);
            noFactors(desk, 6, 0, 0);
            noFactors(desk, 6, 1, 0);
            desk = with(c + "*x+" + c);
            due("factors of " + c + " (x + 1)", desk.factors(6, 0), 1);
            oneFactor(desk, 6, 0, 0, "11", 1);
        }
    }

    private static void factorsFromTheFewestToTheMost() {
        about = "a product of powers of different monic polynomials";
        RationalDesk desk = with("2*x^8+1");
        due("can't be split", desk.factors(6, 0), 1);
        oneFactor(desk, 6, 0, 0, "100000003", 1);
        noFactors(desk, 6, 0, 1);
        desk = with("(x^5-x)*(x^3+x+1)");
        due("six, the most", desk.factors(6, 0), 6);
        for (int i = 0; i < 5; i++) {
            oneFactor(desk, 6, 0, i, "1" + i, 1);
        }
        oneFactor(desk, 6, 0, 5, "1011", 1);
        noFactors(desk, 6, 0, 6);
        desk = with("1/(x^5-x)/(x^2+2)/x");
        due("six in q", desk.factors(6, 1), 6);
        oneFactor(desk, 6, 1, 0, "10", 2);
        oneFactor(desk, 6, 1, 5, "102", 1);
        noFactors(desk, 6, 1, 6);
        desk = with("(x^4+2)^2");
        due("a square", desk.factors(6, 0), 1);
        oneFactor(desk, 6, 0, 0, "10002", 2);
        desk = with("(x^2+2)^4");
        oneFactor(desk, 6, 0, 0, "102", 4);
        noFactors(desk, 6, 0, 1);
    }

    private static void factorsByRisingDegree() {
        about = "They are counted from 0, by rising degree";
        RationalDesk desk = with("(x^5+4*x+1)*(x^2+2)*(x+4)");
        due("factors", desk.factors(6, 0), 3);
        oneFactor(desk, 6, 0, 0, "14", 1);
        oneFactor(desk, 6, 0, 1, "102", 1);
        oneFactor(desk, 6, 0, 2, "100041", 1);
        desk = with("1/((x^4+2)*(x^3+x+1)*x)");
        due("factors", desk.factors(6, 1), 3);
        oneFactor(desk, 6, 1, 0, "10", 1);
        oneFactor(desk, 6, 1, 1, "1011", 1);
        oneFactor(desk, 6, 1, 2, "10002", 1);
        // The greater power doesn't come first, nor does the greater number.
        desk = with("(x+4)*(x^2+2)^3");
        oneFactor(desk, 6, 0, 0, "14", 1);
        oneFactor(desk, 6, 0, 1, "102", 3);
    }

    private static void factorsOfTheSameDegree() {
        about = "of the same degree that one comes first which has the smaller number at the highest power at which they differ";
        RationalDesk desk = with("(x+4)^2*x*(x+1)^3");
        oneFactor(desk, 6, 0, 0, "10", 1);
        oneFactor(desk, 6, 0, 1, "11", 3);
        oneFactor(desk, 6, 0, 2, "14", 2);
        desk = with("(x^2+x+1)*(x^2+3)");
        oneFactor(desk, 6, 0, 0, "103", 1);
        oneFactor(desk, 6, 0, 1, "111", 1);
        desk = with("(x^2+3)*(x^2+2)");
        oneFactor(desk, 6, 0, 0, "102", 1);
        oneFactor(desk, 6, 0, 1, "103", 1);
        desk = with("(x^4+3)*(x^4+2)");
        oneFactor(desk, 6, 0, 0, "10002", 1);
        oneFactor(desk, 6, 0, 1, "10003", 1);
        // x^3 + x^2 + 1 has the smaller numbers below, but the greater one at x^2.
        desk = with("(x^3+x^2+1)*(x^3+4*x+2)");
        due("both can't be split", desk.factors(6, 0), 2);
        oneFactor(desk, 6, 0, 0, "1042", 1);
        oneFactor(desk, 6, 0, 1, "1101", 1);
    }

    private static void fractionsHaveLowerDegreesThanTheirFactors() {
        about = "polynomials c = c(i, j) of degrees below that of fi, for all j in 1..ei";
        RationalDesk desk = with("(x^7+2)/(x^8+3)");
        fractionIs(desk, -1, 0, "0");
        fractionIs(desk, 0, 1, "10000002");
        desk = with("(x^8+2)/(x^8+3)");
        fractionIs(desk, -1, 0, "1");
        fractionIs(desk, 0, 1, "4");
        desk = with("x^7/(x+1)^8");
        String[] ofPower = {"0", "1", "3", "1", "0", "0", "4", "2", "4", "0"};
        for (int j = 0; j <= 9; j++) {
            fractionIs(desk, 0, j, ofPower[j]);
        }
        desk = with("1/x^8");
        for (int j = 0; j <= 9; j++) {
            fractionIs(desk, 0, j, j == 8 ? "1" : "0");
        }
        // 1 / (x^5 - x): its derivative is 4 at each root, and 1 / 4 is 4.
        desk = with("1/(x^5-x)");
        for (int i = -1; i <= 5; i++) {
            fractionIs(desk, i, 1, i >= 0 && i < 5 ? "4" : "0");
        }
        desk = with("x^8");
        fractionIs(desk, -1, 0, "100000000");
        fractionIs(desk, 0, 1, "0");
    }

    private static void fractionsOfFactorsOfEachDegree() {
        about = "p / q with q's factors f0, f1, .. and their powers e0, e1, .. is w + the sum of all c / fi^j";
        RationalDesk desk = with("x/(x^2+2)/(x+1)");
        fractionIs(desk, 0, 1, "3");
        fractionIs(desk, 1, 1, "24");
        desk = with("x^8/(x^2+2)^2/(x^2+x+1)^2");
        fractionIs(desk, -1, 0, "1");
        fractionIs(desk, 0, 1, "21");
        fractionIs(desk, 0, 2, "31");
        fractionIs(desk, 1, 1, "12");
        fractionIs(desk, 1, 2, "30");
        desk = with("x/(x^3+x+1)/(x^3+x^2+1)");
        fractionIs(desk, 0, 1, "331");
        fractionIs(desk, 1, 1, "244");
        desk = with("1/(x^4+2)/(x^4+x+4)");
        fractionIs(desk, 0, 1, "3421");
        fractionIs(desk, 1, 1, "2131");
        desk = with("x/(x^5-x+1)/(x^3+x+1)");
        fractionIs(desk, 0, 1, "231");
        fractionIs(desk, 1, 1, "32104");
        desk = with("1/(x^7+x+1)/x");
        fractionIs(desk, 0, 1, "1");
        fractionIs(desk, 1, 1, "4000004");
    }

    private static void placesAre0To6() {
        about = "PLACES: 0..5 the variables, 6 the RESULT";
        RationalDesk desk = new RationalDesk();
        for (int n = 0; n <= 5; n++) {
            evaluate(desk, "x+" + (n + 1) + "*x^2");
            due("store " + n, desk.store(n), true);
        }
        evaluate(desk, "2/(x+1)");
        for (int n = 0; n <= 5; n++) {
            due("number of " + n, desk.number(n, 0, 2), (n + 1) % 5);
            due("value of " + n, desk.value(n, 1), (n + 2) % 5);
        }
        due("RESULT", desk.degree(6, 1), 1);
        due("its value", desk.value(6, 0), 2);
        int[] outside = {LOW, -1, 7, HIGH};
        for (int at : outside) {
            due("degree", desk.degree(at, 0), -2);
            due("number", desk.number(at, 1, 0), 0);
            due("value", desk.value(at, 0), -1);
            due("factors", desk.factors(at, 0), -1);
            due("factorDegree", desk.factorDegree(at, 0, 0), -1);
            due("factor", desk.factor(at, 0, 0, 1), 0);
            due("power", desk.power(at, 0, 0), 0);
            due("fraction", desk.fraction(at, 0, 1, 0), 0);
            due("fraction", desk.fraction(at, -1, 1, 0), 0);
        }
    }

    // ---- promises 1 to 5 ----

    private static void newObjectHasNothing() {
        about = "Nothing is stored anywhere, no tokens, no RESULT";
        RationalDesk desk = new RationalDesk();
        for (int at = 0; at <= 6; at++) {
            for (int part = 0; part <= 1; part++) {
                due("degree", desk.degree(at, part), -2);
                due("number", desk.number(at, part, 0), 0);
                due("factors", desk.factors(at, part), -1);
                due("factorDegree", desk.factorDegree(at, part, 0), -1);
                due("factor", desk.factor(at, part, 0, 0), 0);
                due("power", desk.power(at, part, 0), 0);
            }
            due("value", desk.value(at, 0), -1);
            due("fraction", desk.fraction(at, 0, 1, 0), 0);
            due("fraction", desk.fraction(at, -1, 1, 0), 0);
            due("store", desk.store(at), false);
            due("clear", desk.clear(at), false);
        }
        due("wipe", desk.wipe(), 0);
        due("place", desk.place(), -1);
        due("evaluate", desk.evaluate(), SYNTAX);
        due("place", desk.place(), 0);
        // One object's things are not another one's.
        desk = with("x");
        desk.store(0);
        RationalDesk other = new RationalDesk();
        due("another one", other.degree(6, 0), -2);
        due("another one", other.degree(0, 0), -2);
        due("another one", other.wipe(), 0);
        result(desk, 0, "10", "1");
    }

    private static void tokenKinds() {
        about = "False, changing nothing, if kind is outside 0..11";
        int[] outside = {LOW, -2, -1, 12, 13, HIGH};
        for (int kind : outside) {
            RationalDesk desk = new RationalDesk();
            due("kind " + kind, desk.token(kind, 0), false);
            due("none", desk.wipe(), 0);
        }
        for (int kind = 0; kind <= 11; kind++) {
            RationalDesk desk = new RationalDesk();
            due("kind " + kind, desk.token(kind, 0), true);
            due("one", desk.wipe(), 1);
        }
    }

    private static void tokenVariables() {
        about = "False, changing nothing, if a VAR outside 0..5";
        int[] outside = {LOW, -2, -1, 6, 7, HIGH};
        for (int n : outside) {
            RationalDesk desk = new RationalDesk();
            due("VAR " + n, desk.token(2, n), false);
            due("none", desk.wipe(), 0);
        }
        for (int n = 0; n <= 5; n++) {
            RationalDesk desk = new RationalDesk();
            due("VAR " + n, desk.token(2, n), true);
            due("one", desk.wipe(), 1);
        }
    }

    private static void tokenExponents() {
        about = "False, changing nothing, if an exponent outside -8..8";
        int[] outside = {LOW, LOW + 1, -10, -9, 9, 10, HIGH};
        for (int n : outside) {
            RationalDesk desk = new RationalDesk();
            due("exponent " + n, desk.token(9, n), false);
            due("none", desk.wipe(), 0);
        }
        for (int n = -8; n <= 8; n++) {
            RationalDesk desk = new RationalDesk();
            due("x", desk.token(1, 0), true);
            due("exponent " + n, desk.token(9, n), true);
            due("evaluate", desk.evaluate(), OK);
            due("degree of p", desk.degree(6, 0), Math.max(n, 0));
            due("degree of q", desk.degree(6, 1), Math.max(-n, 0));
            due("two", desk.wipe(), 2);
        }
    }

    private static void tokenNumbersAreAnyInt() {
        about = "0 NUM (any int)";
        int[] any = {LOW, LOW + 1, -6, -5, -1, 0, 4, 5, 6, 11, 12, 24, HIGH - 1, HIGH};
        RationalDesk desk = new RationalDesk();
        for (int n : any) {
            due("NUM " + n, desk.token(0, n), true);
        }
        due("all", desk.wipe(), any.length);
    }

    private static void tokensAreAtMost24() {
        about = "False, changing nothing, if there are 24";
        RationalDesk desk = new RationalDesk();
        for (int i = 1; i <= 23; i++) {
            due("token " + i, desk.token(i % 2 == 1 ? 1 : 5, 0), true);
        }
        due("23 are a formula", desk.evaluate(), OK);
        result(desk, 6, "20", "1");
        due("token 24", desk.token(10, 0), true);
        for (int kind = 0; kind <= 11; kind++) {
            due("one more", desk.token(kind, 0), false);
        }
        due("24 are a formula", desk.evaluate(), OK);
        result(desk, 6, "11", "1");
        due("wipe", desk.wipe(), 24);
        for (int i = 1; i <= 24; i++) {
            due("again token " + i, desk.token(0, i), true);
        }
        due("again one more", desk.token(0, 0), false);
        due("wipe", desk.wipe(), 24);
    }

    private static void wipeOfNoneAndOfAll() {
        about = "Removes all tokens; answers their number";
        RationalDesk desk = new RationalDesk();
        for (int count = 0; count <= 24; count++) {
            for (int i = 0; i < count; i++) {
                desk.token(3, 0);
            }
            due("wipe of " + count, desk.wipe(), count);
            due("wipe of none", desk.wipe(), 0);
        }
        desk = with("x+1");
        desk.store(3);
        due("wipe", desk.wipe(), 3);
        result(desk, 3, "11", "1");
        result(desk, 6, "11", "1");
        due("place", desk.place(), -1);
        fault(desk, "1/0", ZERO, 1);
        due("wipe", desk.wipe(), 3);
        due("the place stays", desk.place(), 1);
        due("no tokens", desk.evaluate(), SYNTAX);
        due("place", desk.place(), 0);
    }

    private static void evaluateLeavesTheTokens() {
        about = "Works out the formula of the tokens (they stay)";
        RationalDesk desk = with("x");
        desk.store(0);
        type(desk, "a*x");
        for (int i = 2; i <= 8; i++) {
            due("evaluate", desk.evaluate(), OK);
            due("degree", desk.degree(6, 0), i);
            due("store", desk.store(0), true);
        }
        due("the ninth power", desk.evaluate(), TOO_LARGE);
        due("place", desk.place(), 1);
        due("again", desk.evaluate(), TOO_LARGE);
        due("wipe", desk.wipe(), 3);
        fault(desk, "x+", SYNTAX, 2);
        due("again", desk.evaluate(), SYNTAX);
        due("the end", desk.token(0, 1), true);
        due("evaluate", desk.evaluate(), OK);
        result(desk, 6, "11", "1");
        due("wipe", desk.wipe(), 3);
        due("24 tokens", evaluate(desk, FULL), OK);
        due("again", desk.evaluate(), OK);
        result(desk, 6, "30", "1");
        due("wipe", desk.wipe(), 24);
    }

    private static void syntaxAtEachPlace() {
        about = "SYNTAX (place: the first token such that no formula begins with the tokens up to it and with it)";
        for (int place = 0; place < 24; place++) {
            RationalDesk desk = new RationalDesk();
            for (int i = 0; i < 24; i++) {
                // x + x + x .., with a ) that nothing opened.
                desk.token(i == place ? 4 : i % 2 == 0 ? 1 : 5, 0);
            }
            due("evaluate", desk.evaluate(), SYNTAX);
            due("place", desk.place(), place);
        }
        // What follows the first such token is not looked at, nor is a fault in front of it.
        fault("x)((", SYNTAX, 1);
        fault("+)", SYNTAX, 0);
        fault("1/0)", SYNTAX, 3);
        fault("a b", SYNTAX, 1);
        fault("x^8*x)", SYNTAX, 4);
        fault("(x))", SYNTAX, 3);
        fault("(x)+)", SYNTAX, 4);
    }

    private static void syntaxWhereTheEndIsMissing() {
        about = "SYNTAX (place: .. or their number if the end is missing)";
        fault("", SYNTAX, 0);
        fault("-", SYNTAX, 1);
        fault("(", SYNTAX, 1);
        fault("x+", SYNTAX, 2);
        fault("x-", SYNTAX, 2);
        fault("x*", SYNTAX, 2);
        fault("x/", SYNTAX, 2);
        fault("x@", SYNTAX, 2);
        fault("(x", SYNTAX, 2);
        fault("(x'", SYNTAX, 3);
        fault("((x)", SYNTAX, 4);
        fault("x@(x", SYNTAX, 4);
        fault("a+", SYNTAX, 2);
        fault("1/0+", SYNTAX, 4);
        fault("(".repeat(24), SYNTAX, 24);
        fault("(".repeat(12) + "x" + ")".repeat(11), SYNTAX, 24);
        fault("x+".repeat(12), SYNTAX, 24);
    }

    private static void noResultAfterAFault() {
        about = "Else SYNTAX or the fault: there is no RESULT then";
        String[] formulas = {"x+", "a", "1/0", "x^8*x", ""};
        int[] codes = {SYNTAX, EMPTY, ZERO, TOO_LARGE, SYNTAX};
        for (int i = 0; i < formulas.length; i++) {
            RationalDesk desk = with("2/(x+1)");
            due("store", desk.store(1), true);
            due(formulas[i], evaluate(desk, formulas[i]), codes[i]);
            due("degree", desk.degree(6, 0), -2);
            due("degree", desk.degree(6, 1), -2);
            due("number", desk.number(6, 0, 0), 0);
            due("number", desk.number(6, 1, 1), 0);
            due("value", desk.value(6, 0), -1);
            due("factors", desk.factors(6, 1), -1);
            due("factorDegree", desk.factorDegree(6, 1, 0), -1);
            due("factor", desk.factor(6, 1, 0, 0), 0);
            due("power", desk.power(6, 1, 0), 0);
            due("fraction", desk.fraction(6, 0, 1, 0), 0);
            due("store", desk.store(0), false);
            result(desk, 1, "2", "11");
            due("a RESULT again", evaluate(desk, "b+0"), OK);
            result(desk, 6, "2", "11");
        }
    }

    private static void placeBeforeAnyEvaluate() {
        about = "-1 if there was none";
        RationalDesk desk = new RationalDesk();
        due("new", desk.place(), -1);
        type(desk, "x)");
        due("with tokens", desk.place(), -1);
        desk.store(0);
        desk.clear(0);
        desk.token(99, 0);
        desk.wipe();
        due("after other calls", desk.place(), -1);
    }

    private static void placeAfterOk() {
        about = "-1 if that answered OK";
        RationalDesk desk = with("x");
        due("first", desk.place(), -1);
        fault(desk, "1/0", ZERO, 1);
        due("evaluate", evaluate(desk, "0"), OK);
        due("after a fault", desk.place(), -1);
        fault(desk, "x)", SYNTAX, 1);
        due("evaluate", evaluate(desk, FULL), OK);
        due("after SYNTAX", desk.place(), -1);
    }

    private static void placeFromTheFirstToTheLastToken() {
        about = "The place of the latest evaluate";
        fault("a", EMPTY, 0);
        fault("0^-1", ZERO, 1);
        fault("-x+x+x+x+x+x+x+x+x+x+x-a", EMPTY, 23);
        fault("0" + "^1".repeat(22) + "^-1", ZERO, 23);
        fault("x^3" + "^1".repeat(21) + "^3", TOO_LARGE, 23);
        fault("x^-8" + "^1".repeat(21) + "'", TOO_LARGE, 23);
        fault(")", SYNTAX, 0);
        fault("-x+x+x+x+x+x+x+x+x+x+x-)", SYNTAX, 23);
        RationalDesk desk = new RationalDesk();
        fault(desk, "x+a", EMPTY, 2);
        desk.wipe();
        type(desk, "x");
        due("until the next evaluate", desk.place(), 2);
        due("asked again", desk.place(), 2);
        fault(desk, "x+x*", SYNTAX, 4);
    }

    // ---- promises 6 to 10 ----

    private static void storeFrom0To5() {
        about = "Variable n gets the RESULT. False, changing nothing, if n is outside 0..5";
        int[] outside = {LOW, -2, -1, 6, 7, HIGH};
        RationalDesk desk = new RationalDesk();
        for (int n = 0; n <= 5; n++) {
            evaluate(desk, "x^" + n + "+2");
            due("store " + n, desk.store(n), true);
        }
        for (int n : outside) {
            due("store " + n, desk.store(n), false);
        }
        due("variable 0", desk.number(0, 0, 0), 3);
        for (int n = 1; n <= 5; n++) {
            due("degree of " + n, desk.degree(n, 0), n);
            due("number of " + n, desk.number(n, 0, 0), 2);
        }
        result(desk, 6, "100002", "1");
        due("over what was there", desk.store(0), true);
        result(desk, 0, "100002", "1");
        evaluate(desk, "0");
        due("0 is stored as well", desk.store(0), true);
        result(desk, 0, "0", "1");
        due("the RESULT stays", desk.degree(6, 0), -1);
    }

    private static void storeAndClearLeaveTheOthers() {
        about = "Variable n gets the RESULT; Nothing is stored in variable n any more";
        for (int n = 0; n <= 5; n++) {
            RationalDesk desk = new RationalDesk();
            for (int other = 5; other >= 0; other--) {
                evaluate(desk, other + "/(x^2+" + other + ")+1");
                due("store " + other, desk.store(other), true);
            }
            due("evaluate", evaluate(desk, "(x^8+3)/(x^8+2)"), OK);
            due("store " + n, desk.store(n), true);
            result(desk, n, "100000003", "100000002");
            due("clear " + n, desk.clear(n), true);
            for (int other = 0; other <= 5; other++) {
                // 1 + c / (x^2 + c) is (x^2 + 2c) / (x^2 + c).
                String p = other % 5 == 0 ? "1" : "10" + 2 * other % 5;
                String q = other % 5 == 0 ? "1" : "10" + other;
                if (other != n) {
                    result(desk, other, p, q);
                }
            }
            result(desk, 6, "100000003", "100000002");
        }
    }

    private static void storeWithoutResult() {
        about = "False, changing nothing, if there is no RESULT";
        RationalDesk desk = new RationalDesk();
        for (int n = 0; n <= 5; n++) {
            due("new", desk.store(n), false);
            due("nothing there", desk.degree(n, 0), -2);
        }
        evaluate(desk, "x");
        desk.store(2);
        String[] formulas = {"x+", "a", "1/0", "x^8*x"};
        for (String formula : formulas) {
            evaluate(desk, formula);
            due("store after " + formula, desk.store(2), false);
            due("store after " + formula, desk.store(0), false);
            result(desk, 2, "10", "1");
            due("nothing there", desk.degree(0, 0), -2);
        }
    }

    private static void clearFrom0To5() {
        about = "Nothing is stored in variable n any more: whether something was. False if n is outside 0..5";
        int[] outside = {LOW, -2, -1, 6, 7, HIGH};
        RationalDesk desk = with("2*x");
        for (int n = 0; n <= 5; n++) {
            desk.store(n);
        }
        for (int n : outside) {
            due("clear " + n, desk.clear(n), false);
        }
        for (int n = 0; n <= 5; n++) {
            result(desk, n, "20", "1");
            due("clear " + n, desk.clear(n), true);
            due("degree", desk.degree(n, 0), -2);
            due("again", desk.clear(n), false);
        }
        result(desk, 6, "20", "1");
    }

    private static void clearOfNothing() {
        about = "whether something was";
        RationalDesk desk = with("0");
        for (int n = 0; n <= 5; n++) {
            due("nothing was", desk.clear(n), false);
        }
        due("store", desk.store(5), true);
        due("0 was", desk.clear(5), true);
        due("nothing was", desk.clear(5), false);
        due("store", desk.store(5), true);
        due("something again", desk.clear(5), true);
    }

    private static void degreeFromTheSmallestToTheGreatest() {
        about = "The degree of p (part 0) or q (part 1) of the reduced form in a place";
        RationalDesk desk = with("0");
        due("p of 0", desk.degree(6, 0), -1);
        due("q of 0", desk.degree(6, 1), 0);
        for (int n = 0; n <= 8; n++) {
            desk = with("x^" + n);
            due("p", desk.degree(6, 0), n);
            due("q", desk.degree(6, 1), 0);
            desk = with("x^-" + n);
            due("p", desk.degree(6, 0), 0);
            due("q", desk.degree(6, 1), n);
        }
        desk = with("(x^8+3)/(x^8+2)");
        due("p", desk.degree(6, 0), 8);
        due("q", desk.degree(6, 1), 8);
    }

    private static void degreeOfNothingOrOfNoPart() {
        about = "-2 if there is nothing, or part is neither";
        RationalDesk desk = with("x^2/(x+1)");
        desk.store(0);
        int[] parts = {LOW, -1, 2, 3, HIGH};
        for (int part : parts) {
            due("part " + part, desk.degree(6, part), -2);
            due("part " + part, desk.degree(0, part), -2);
            due("part and nothing", desk.degree(1, part), -2);
        }
        int[] places = {LOW, -1, 1, 5, 7, HIGH};
        for (int at : places) {
            due("at " + at, desk.degree(at, 0), -2);
            due("at " + at, desk.degree(at, 1), -2);
        }
        desk.clear(0);
        due("cleared", desk.degree(0, 0), -2);
    }

    private static void numberFrom0To8() {
        about = "Its number at x^k; 0 if k is outside 0..8";
        RationalDesk desk = with("(2*x^8+1)/(x^8+4)");
        int[] outside = {LOW, -9, -1, 9, 10, 17, 18, HIGH};
        for (int k : outside) {
            due("p at " + k, desk.number(6, 0, k), 0);
            due("q at " + k, desk.number(6, 1, k), 0);
        }
        due("p at 0", desk.number(6, 0, 0), 1);
        due("p at 8", desk.number(6, 0, 8), 2);
        due("q at 0", desk.number(6, 1, 0), 4);
        due("q at 8", desk.number(6, 1, 8), 1);
        for (int k = 1; k <= 7; k++) {
            due("p at " + k, desk.number(6, 0, k), 0);
            due("q at " + k, desk.number(6, 1, k), 0);
        }
        desk = with("x^2+x");
        due("above the degree", desk.number(6, 0, 3), 0);
        due("above the degree", desk.number(6, 1, 1), 0);
        desk = with("0");
        for (int k = -1; k <= 9; k++) {
            due("p of 0 at " + k, desk.number(6, 0, k), 0);
            due("q of 0 at " + k, desk.number(6, 1, k), k == 0 ? 1 : 0);
        }
    }

    private static void numberOfNothingOrOfNoPart() {
        about = "0 if there is nothing; number: 0 also if part is neither 0 nor 1";
        RationalDesk desk = with("(x+1)/(x+2)");
        desk.store(0);
        int[] parts = {LOW, -1, 2, 3, HIGH};
        for (int part : parts) {
            for (int k = 0; k <= 1; k++) {
                due("part " + part, desk.number(6, part, k), 0);
                due("part " + part, desk.number(0, part, k), 0);
            }
        }
        int[] places = {LOW, -1, 1, 5, 7, HIGH};
        for (int at : places) {
            for (int k = 0; k <= 1; k++) {
                due("at " + at, desk.number(at, 0, k), 0);
                due("at " + at, desk.number(at, 1, k), 0);
            }
        }
        desk.clear(0);
        due("cleared", desk.number(0, 0, 1), 0);
        due("cleared", desk.number(0, 1, 1), 0);
    }

    private static void valueAtAnyInt() {
        about = "The value of the function in a place at x = v (any int)";
        RationalDesk desk = with("x");
        int[] any = {LOW, LOW + 1, LOW + 2, LOW + 3, -6, -5, -4, -1, 0, 1, 4, 5, 6, HIGH - 2, HIGH - 1, HIGH};
        for (int v : any) {
            due("x at " + v, desk.value(6, v), Math.floorMod(v, 5));
        }
        desk = with("x^8+x+1");
        for (int v : any) {
            long x = Math.floorMod(v, 5);
            due("at " + v, desk.value(6, v), (x * x * x * x * x * x * x * x + x + 1) % 5);
        }
        desk = with("0");
        for (int v : any) {
            due("0 at " + v, desk.value(6, v), 0);
        }
        desk = with("1/(x^2+2)");
        int[] wants = {3, 2, 1, 1, 2};
        for (int v : any) {
            due("1/(x^2+2) at " + v, desk.value(6, v), wants[Math.floorMod(v, 5)]);
        }
    }

    private static void valueAtPoles() {
        about = "POLE if q is 0 there";
        for (int root = 0; root < 5; root++) {
            RationalDesk desk = with("1/(x-" + root + ")");
            for (int v = -10; v <= 10; v++) {
                int d = Math.floorMod(v - root, 5);
                due("1/(x-" + root + ") at " + v, desk.value(6, v), d == 0 ? POLE : d * d * d % 5);
            }
        }
        RationalDesk desk = with("1/(x-2)");
        due("the smallest int", desk.value(6, LOW), POLE);
        due("the greatest int", desk.value(6, HIGH), POLE);
        desk = with("(x-1)/(x^5-x)");
        int[] wants = {POLE, 4, POLE, POLE, POLE};
        for (int v = 0; v < 5; v++) {
            due("a pole that is gone, at " + v, desk.value(6, v), wants[v]);
        }
        desk = with("(x-1)/(x^2-1)");
        due("gone", desk.value(6, 1), 3);
        due("not gone", desk.value(6, -1), POLE);
    }

    private static void valueOfNothing() {
        about = "-1 if there is nothing";
        RationalDesk desk = with("3");
        int[] places = {LOW, -1, 0, 5, 7, HIGH};
        int[] any = {LOW, -1, 0, 4, HIGH};
        for (int at : places) {
            for (int v : any) {
                due("at " + at, desk.value(at, v), -1);
            }
        }
        due("stored", desk.store(5), true);
        due("something", desk.value(5, 0), 3);
        desk.clear(5);
        due("cleared", desk.value(5, 0), -1);
    }

    // ---- promises 11 to 15 ----

    private static void factorsOfNothingOrOfNoPart() {
        about = "How many factors p or q has; -1 if there is nothing, part is neither";
        RationalDesk desk = with("x*(x+1)/(x+2)");
        desk.store(0);
        due("p", desk.factors(6, 0), 2);
        due("q", desk.factors(6, 1), 1);
        int[] parts = {LOW, -1, 2, 3, HIGH};
        for (int part : parts) {
            due("part " + part, desk.factors(6, part), -1);
            due("part " + part, desk.factors(0, part), -1);
        }
        int[] places = {LOW, -1, 1, 5, 7, HIGH};
        for (int at : places) {
            due("at " + at, desk.factors(at, 0), -1);
            due("at " + at, desk.factors(at, 1), -1);
        }
        desk.clear(0);
        due("cleared", desk.factors(0, 0), -1);
        due("cleared", desk.factors(0, 1), -1);
    }

    private static void factorsOf0() {
        about = "-1 if p is 0";
        RationalDesk desk = with("0");
        due("p", desk.factors(6, 0), -1);
        // The sentence names no part.
        due("q", desk.factors(6, 1), -1);
        desk.store(4);
        due("p of a variable", desk.factors(4, 0), -1);
        noFactors(desk, 6, 0, 0);
        noFactors(desk, 6, 1, 0);
        desk = with("1");
        due("1 has none", desk.factors(6, 0), 0);
        due("1 has none", desk.factors(6, 1), 0);
        desk = with("1/x");
        due("p is a number", desk.factors(6, 0), 0);
        due("q is x", desk.factors(6, 1), 1);
    }

    private static void factorDegreeOfNone() {
        about = "The degree of factor i; -1 if there is none";
        RationalDesk desk = with("x*(x^2+2)/(x^8+2)");
        due("p, 0", desk.factorDegree(6, 0, 0), 1);
        due("p, 1", desk.factorDegree(6, 0, 1), 2);
        int[] outside = {LOW, -2, -1, 2, 3, 7, 8, 9, HIGH};
        for (int i : outside) {
            due("p, " + i, desk.factorDegree(6, 0, i), -1);
        }
        due("q, 0", desk.factorDegree(6, 1, 0), 8);
        due("q, 1", desk.factorDegree(6, 1, 1), -1);
        int[] others = {LOW, -1, 2, HIGH};
        for (int n : others) {
            due("part " + n, desk.factorDegree(6, n, 0), -1);
            due("at " + n, desk.factorDegree(n, 0, 0), -1);
        }
        due("at 7", desk.factorDegree(7, 0, 0), -1);
        desk = with("2");
        due("a number", desk.factorDegree(6, 0, 0), -1);
        due("q is 1", desk.factorDegree(6, 1, 0), -1);
        desk = with("0");
        due("0", desk.factorDegree(6, 0, 0), -1);
        due("q of 0", desk.factorDegree(6, 1, 0), -1);
    }

    private static void factorOfNone() {
        about = "Its number at x^k; 0 if there is none";
        RationalDesk desk = with("(x+3)*(x^2+2)/(x+4)");
        due("p, 0", desk.factor(6, 0, 0, 0), 3);
        due("p, 1", desk.factor(6, 0, 1, 0), 2);
        due("q, 0", desk.factor(6, 1, 0, 0), 4);
        int[] outside = {LOW, -2, -1, 2, 3, 7, 8, 9, HIGH};
        for (int i : outside) {
            for (int k = 0; k <= 2; k++) {
                due("p, " + i, desk.factor(6, 0, i, k), 0);
                due("q, " + i, desk.factor(6, 1, i, k), 0);
            }
        }
        due("q, 1", desk.factor(6, 1, 1, 0), 0);
        int[] others = {LOW, -1, 2, HIGH};
        for (int n : others) {
            due("part " + n, desk.factor(6, n, 0, 0), 0);
            due("at " + n, desk.factor(n, 0, 0, 0), 0);
        }
        due("at 7", desk.factor(7, 0, 0, 0), 0);
        due("of 0", with("0").factor(6, 0, 0, 0), 0);
        due("of 3", with("3").factor(6, 0, 0, 0), 0);
    }

    private static void factorNumbersFrom0To8() {
        about = "Its number at x^k; 0 if k is outside 0..8";
        RationalDesk desk = with("(x^8+3)/((x+1)*(x+2))");
        int[] outside = {LOW, -9, -1, 9, 10, 17, 18, HIGH};
        for (int k : outside) {
            due("p at " + k, desk.factor(6, 0, 0, k), 0);
            due("q, 0 at " + k, desk.factor(6, 1, 0, k), 0);
            // The factor in front of it and the one behind it are not reached that way.
            due("q, 1 at " + k, desk.factor(6, 1, 1, k), 0);
        }
        due("p at 0", desk.factor(6, 0, 0, 0), 3);
        due("p at 8", desk.factor(6, 0, 0, 8), 1);
        for (int k = 1; k <= 7; k++) {
            due("p at " + k, desk.factor(6, 0, 0, k), 0);
        }
        due("q, 1 at 0", desk.factor(6, 1, 1, 0), 2);
        due("q, 1 at 1", desk.factor(6, 1, 1, 1), 1);
        due("above its degree", desk.factor(6, 1, 1, 2), 0);
        due("above its degree", desk.factor(6, 1, 1, 8), 0);
    }

    private static void powerOfNone() {
        about = "Its power in p or q; 0 if there is none";
        RationalDesk desk = with("x^3*(x^2+2)/(x+1)^2");
        due("p, 0", desk.power(6, 0, 0), 3);
        due("p, 1", desk.power(6, 0, 1), 1);
        due("q, 0", desk.power(6, 1, 0), 2);
        due("q, 1", desk.power(6, 1, 1), 0);
        int[] outside = {LOW, -2, -1, 2, 3, 7, 8, 9, HIGH};
        for (int i : outside) {
            due("p, " + i, desk.power(6, 0, i), 0);
            due("q, " + i, desk.power(6, 1, i), 0);
        }
        int[] others = {LOW, -1, 2, HIGH};
        for (int n : others) {
            due("part " + n, desk.power(6, n, 0), 0);
            due("at " + n, desk.power(n, 0, 0), 0);
        }
        due("at 7", desk.power(7, 0, 0), 0);
        due("of 0", with("0").power(6, 0, 0), 0);
        due("of 3", with("3").power(6, 0, 0), 0);
    }

    private static void powersFrom1To8() {
        about = "Its power in p or q";
        for (int n = 1; n <= 8; n++) {
            RationalDesk desk = with("(x+2)^" + n);
            due("in p", desk.power(6, 0, 0), n);
            due("in q", desk.power(6, 1, 0), 0);
            desk = with("(x+2)^-" + n);
            due("in p", desk.power(6, 0, 0), 0);
            due("in q", desk.power(6, 1, 0), n);
        }
        // The fifth power of x + 2 is x^5 + 2: no derivative tells its power.
        oneFactor(with("x^5+2"), 6, 0, 0, "12", 5);
        RationalDesk desk = with("x^7*(x+1)");
        oneFactor(desk, 6, 0, 0, "10", 7);
        oneFactor(desk, 6, 0, 1, "11", 1);
    }

    private static void fractionOfNothing() {
        about = "0 if there is nothing";
        RationalDesk desk = with("x^2/(x+1)");
        desk.store(0);
        due("w", desk.fraction(0, -1, 0, 1), 1);
        due("c", desk.fraction(0, 0, 1, 0), 1);
        int[] places = {LOW, -1, 1, 5, 7, HIGH};
        for (int at : places) {
            due("w at " + at, desk.fraction(at, -1, 0, 1), 0);
            due("c at " + at, desk.fraction(at, 0, 1, 0), 0);
        }
        desk.clear(0);
        due("cleared", desk.fraction(0, -1, 0, 1), 0);
        due("cleared", desk.fraction(0, 0, 1, 0), 0);
    }

    private static void fractionOfNoSuchFactor() {
        about = "0 if no such i";
        RationalDesk desk = with("1/(x*(x+1)*(x+2))");
        int[] wants = {3, 4, 3};
        for (int i = 0; i <= 2; i++) {
            due("factor " + i, desk.fraction(6, i, 1, 0), wants[i]);
        }
        int[] outside = {LOW, -3, -2, 3, 4, 7, 8, 9, HIGH};
        for (int i : outside) {
            for (int j = 0; j <= 2; j++) {
                due("factor " + i, desk.fraction(6, i, j, 0), 0);
            }
        }
        desk = with("x^2+1");
        due("q has none", desk.fraction(6, 0, 1, 0), 0);
        desk = with("0");
        due("w of 0", desk.fraction(6, -1, 1, 0), 0);
        due("c of 0", desk.fraction(6, 0, 1, 0), 0);
    }

    private static void fractionOfNoSuchPower() {
        about = "0 if no such j";
        // (x^2 + x + 3) / x^3 + 1 / (x + 1)
        RationalDesk desk = with("1/x+1/x^2+3/x^3+1/(x+1)");
        int[] wants = {0, 1, 1, 3, 0};
        for (int j = 0; j <= 4; j++) {
            due("power " + j, desk.fraction(6, 0, j, 0), wants[j]);
        }
        due("the other factor", desk.fraction(6, 1, 1, 0), 1);
        int[] outside = {LOW, -2, -1, 0, 4, 5, 8, 9, HIGH};
        for (int j : outside) {
            due("power " + j, desk.fraction(6, 0, j, 0), 0);
            due("power " + j, desk.fraction(6, 1, j, 0), 0);
        }
        due("a power of another factor", desk.fraction(6, 1, 2, 0), 0);
    }

    private static void fractionOfThePolynomialWithAnyPower() {
        about = "for i = -1 that of w; j (not looked at for w)";
        RationalDesk desk = with("x^8/(x^2+2)");
        int[] any = {LOW, -1, 0, 1, 2, 9, HIGH};
        for (int j : any) {
            fractionIs(desk, -1, j, "1030402");
        }
        desk = with("2*x+3");
        for (int j : any) {
            fractionIs(desk, -1, j, "23");
        }
        desk = with("1/x");
        for (int j : any) {
            fractionIs(desk, -1, j, "0");
        }
    }

    private static void fractionNumbersFrom0To8() {
        about = "The number at x^k; 0 if k is outside 0..8";
        RationalDesk desk = with("3*x^8+2");
        int[] outside = {LOW, -9, -1, 9, 10, 17, 18, HIGH};
        for (int k : outside) {
            due("w at " + k, desk.fraction(6, -1, 1, k), 0);
        }
        due("w at 0", desk.fraction(6, -1, 1, 0), 2);
        due("w at 8", desk.fraction(6, -1, 1, 8), 3);
        due("w at 7", desk.fraction(6, -1, 1, 7), 0);
        desk = with("(4*x^7+2)/(x^8+3)");
        for (int k : outside) {
            due("c at " + k, desk.fraction(6, 0, 1, k), 0);
        }
        due("c at 0", desk.fraction(6, 0, 1, 0), 2);
        due("c at 7", desk.fraction(6, 0, 1, 7), 4);
        due("c at 8", desk.fraction(6, 0, 1, 8), 0);
    }
}
