/** What the tests by hand share: formulas as text, and checks that print each answer that is not due. */
abstract class Checks {
    static final int LOW = Integer.MIN_VALUE, HIGH = Integer.MAX_VALUE;
    static String about = "";
    private static int wrong = 0;
    private static int checks = 0;

    /** Ends the test, with exit code 1 if an answer was wrong. */
    static void end() {
        System.out.println(checks + " checks, " + wrong + " wrong");
        if (wrong != 0) {
            System.exit(1);
        }
    }

    static void due(String what, long got, long want) {
        checks++;
        if (got != want) {
            wrong++;
            System.out.println(about + ": " + what + " answered " + got + ", due is " + want);
        }
    }

    static void due(String what, boolean got, boolean want) {
        due(what, got ? 1 : 0, want ? 1 : 0);
    }

    /** Digits are NUMs, a..f the variables 0..5, ^ is followed by a digit or by - and a digit. */
    static void type(RationalDesk desk, String formula) {
        desk.wipe();
        for (int i = 0; i < formula.length(); i++) {
            char c = formula.charAt(i);
            if (c == ' ') {
                continue;
            }
            boolean taken;
            if (c >= '0' && c <= '9') {
                taken = desk.token(0, c - '0');
            } else if (c >= 'a' && c <= 'f') {
                taken = desk.token(2, c - 'a');
            } else if (c == '^') {
                boolean minus = formula.charAt(i + 1) == '-';
                i += minus ? 2 : 1;
                int exponent = formula.charAt(i) - '0';
                taken = desk.token(9, minus ? -exponent : exponent);
            } else {
                taken = desk.token(" x ()+-*/ '@".indexOf(c), 77);
            }
            due("token " + i + " of " + formula, taken, true);
        }
    }

    static int evaluate(RationalDesk desk, String formula) {
        type(desk, formula);
        return desk.evaluate();
    }

    static RationalDesk with(String formula) {
        RationalDesk desk = new RationalDesk();
        due("evaluate " + formula, evaluate(desk, formula), RationalDesk.OK);
        return desk;
    }

    static void fault(RationalDesk desk, String formula, int code, int place) {
        due("evaluate " + formula, evaluate(desk, formula), code);
        due("place of " + formula, desk.place(), place);
        due("no result of " + formula, desk.degree(6, 0), -2);
    }

    static void fault(String formula, int code, int place) {
        fault(new RationalDesk(), formula, code, place);
    }

    /** p and q as their numbers from the highest power down, 0 as "0". */
    static void result(RationalDesk desk, int at, String p, String q) {
        part(desk, at, 0, p);
        part(desk, at, 1, q);
    }

    static void part(RationalDesk desk, int at, int part, String numbers) {
        int degree = numbers.equals("0") ? -1 : numbers.length() - 1;
        due("degree(" + at + ", " + part + ")", desk.degree(at, part), degree);
        for (int k = 0; k <= 8; k++) {
            int want = k < numbers.length() ? numbers.charAt(numbers.length() - 1 - k) - '0' : 0;
            due("number(" + at + ", " + part + ", " + k + ")", desk.number(at, part, k), want);
        }
    }

    static void gives(String formula, String p, String q) {
        String before = about;
        about = before + ": " + formula;
        RationalDesk desk = with(formula);
        due("place", desk.place(), -1);
        result(desk, 6, p, q);
        about = before;
    }

    static void oneFactor(RationalDesk desk, int at, int part, int i, String numbers, int power) {
        due("factorDegree " + i, desk.factorDegree(at, part, i), numbers.length() - 1);
        due("power " + i, desk.power(at, part, i), power);
        for (int k = 0; k <= 8; k++) {
            int want = k < numbers.length() ? numbers.charAt(numbers.length() - 1 - k) - '0' : 0;
            due("factor " + i + " at " + k, desk.factor(at, part, i, k), want);
        }
    }

    static void fractionIs(RationalDesk desk, int i, int j, String numbers) {
        for (int k = -1; k <= 9; k++) {
            int want = k >= 0 && k < numbers.length() ? numbers.charAt(numbers.length() - 1 - k) - '0' : 0;
            due("fraction " + i + ", " + j + " at " + k, desk.fraction(6, i, j, k), want);
        }
    }

    /** None with the number i or above, nor below 0. */
    static void noFactors(RationalDesk desk, int at, int part, int i) {
        int[] outside = {i, i + 1, 8, 9, HIGH, -1, LOW};
        for (int n : outside) {
            due("factorDegree " + n, desk.factorDegree(at, part, n), -1);
            due("power " + n, desk.power(at, part, n), 0);
            due("factor " + n, desk.factor(at, part, n, 0), 0);
            due("factor " + n, desk.factor(at, part, n, 1), 0);
        }
    }
}
