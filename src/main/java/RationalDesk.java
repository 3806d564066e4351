/** Rational functions in one unknown x over the numbers modulo 5. */
public final class RationalDesk {
    public static final int OK = 0, SYNTAX = 1, EMPTY = 2, ZERO = 3, TOO_LARGE = 4, POLE = 5;

    private static final int NUM = 0, X = 1, VAR = 2, OPEN = 3, CLOSE = 4, PLUS = 5, MINUS = 6;
    private static final int TIMES = 7, OVER = 8, POWER = 9, PRIME = 10, AT = 11;
    // A sign in front of a term is no token kind of its own, but it is a step of its own.
    private static final int NEGATE = 12;

    private static final int MODULUS = 5;
    private static final int TOKENS = 24;
    private static final int VARIABLES = 6;
    private static final int RESULT = 6;
    private static final int PLACES = 7;
    private static final int LARGEST = 8;
    private static final int EXPONENT = 8;

    // A held polynomial has degree LARGEST at most; a product of two of them fits in WIDE numbers.
    private static final int HELD = 9;
    private static final int WIDE = 17;
    // The slots behind the places are the stack of evaluate.
    private static final int SLOTS = PLACES + TOKENS;
    private static final int CELLS = SLOTS * 2 * HELD;
    private static final int FACTORS = 8;
    private static final int FACTOR_CELLS = FACTORS * HELD;
    // Each turn of Euclid's algorithm but the first lowers a degree that is below WIDE.
    private static final int EUCLID_TURNS = WIDE + 2;
    // 5^8 is below 2^19.
    private static final int EXPONENT_BITS = 19;

    private final int[] tokenKind = new int[TOKENS];
    private final int[] tokenContent = new int[TOKENS];
    private int tokenCount;
    private int latestPlace;

    private final int[] stepKind = new int[TOKENS];
    private final int[] stepToken = new int[TOKENS];
    private int stepCount;
    private final int[] waitingKind = new int[TOKENS];
    private final int[] waitingToken = new int[TOKENS];
    private int waitingCount;

    private final boolean[] present = new boolean[PLACES];
    private final int[] cells = new int[CELLS];
    private int stackCount;

    private final int[] leftTop = new int[WIDE];
    private final int[] leftBottom = new int[WIDE];
    private final int[] rightTop = new int[WIDE];
    private final int[] rightBottom = new int[WIDE];
    private final int[] top = new int[WIDE];
    private final int[] bottom = new int[WIDE];

    private final int[] product = new int[WIDE];
    private final int[] quotient = new int[WIDE];
    private final int[] common = new int[WIDE];
    private final int[] spare = new int[WIDE];

    private final int[] rest = new int[WIDE];
    private final int[] divisor = new int[WIDE];
    private final int[] inverse = new int[WIDE];
    private final int[] numerator = new int[WIDE];
    private final int[] factorDegrees = new int[FACTORS];
    private final int[] factorPowers = new int[FACTORS];
    private final int[] factorCells = new int[FACTOR_CELLS];
    private int factorCount;

    public RationalDesk() {
        latestPlace = -1;
    }

    public boolean token(int kind, int value) {
        if (kind < NUM || kind > AT || tokenCount >= TOKENS) {
            return false;
        }
        if (kind == VAR && (value < 0 || value >= VARIABLES)) {
            return false;
        }
        if (kind == POWER && (value < -EXPONENT || value > EXPONENT)) {
            return false;
        }
        tokenKind[tokenCount] = kind;
        tokenContent[tokenCount] = value;
        tokenCount++;
        return true;
    }

    public int wipe() {
        int removed = tokenCount;
        tokenCount = 0;
        return removed;
    }

    public int evaluate() {
        present[RESULT] = false;
        latestPlace = findSyntaxFault();
        if (latestPlace >= 0) {
            return SYNTAX;
        }
        orderSteps();
        stackCount = 0;
        for (int i = 0; i < stepCount; i++) {
            int operands = countOperands(stepKind[i]);
            loadOperands(operands);
            int code = work(stepKind[i], tokenContent[stepToken[i]]);
            if (code == OK) {
                code = settle(operands);
            }
            if (code != OK) {
                latestPlace = stepToken[i];
                return code;
            }
        }
        copySlot(PLACES, RESULT);
        present[RESULT] = true;
        return OK;
    }

    public int place() {
        return latestPlace;
    }

    public boolean store(int n) {
        if (n < 0 || n >= VARIABLES || !present[RESULT]) {
            return false;
        }
        copySlot(RESULT, n);
        present[n] = true;
        return true;
    }

    public boolean clear(int n) {
        if (n < 0 || n >= VARIABLES) {
            return false;
        }
        boolean was = present[n];
        present[n] = false;
        return was;
    }

    public int degree(int at, int part) {
        if (!hasPart(at, part)) {
            return -2;
        }
        load(at, part, rest);
        return degreeOf(rest);
    }

    public int number(int at, int part, int k) {
        if (!hasPart(at, part) || k < 0 || k > LARGEST) {
            return 0;
        }
        load(at, part, rest);
        return rest[k];
    }

    public int value(int at, int v) {
        if (!hasPart(at, 0)) {
            return -1;
        }
        load(at, 0, leftTop);
        load(at, 1, leftBottom);
        int x = modulo(v);
        int below = valueAt(leftBottom, x);
        if (below == 0) {
            return POLE;
        }
        int above = valueAt(leftTop, x);
        return above * inverseOf(below) % MODULUS;
    }

    public int factors(int at, int part) {
        // The document says -1 if p is 0 and doesn't tie that to the part: q's count is refused as well.
        if (!hasPart(at, part) || isZero(at)) {
            return -1;
        }
        split(at, part);
        return factorCount;
    }

    public int factorDegree(int at, int part, int i) {
        return hasFactor(at, part, i) ? factorDegrees[i] : -1;
    }

    public int factor(int at, int part, int i, int k) {
        if (k < 0 || k > LARGEST || !hasFactor(at, part, i)) {
            return 0;
        }
        return factorCells[i * HELD + k];
    }

    public int power(int at, int part, int i) {
        return hasFactor(at, part, i) ? factorPowers[i] : 0;
    }

    public int fraction(int at, int i, int j, int k) {
        if (!hasPart(at, 1) || k < 0 || k > LARGEST) {
            return 0;
        }
        if (i == -1) {
            loadProperPart(at);
            return quotient[k];
        }
        if (!hasFactor(at, 1, i) || j < 1 || j > factorPowers[i]) {
            return 0;
        }
        loadProperPart(at);
        findNumerator(i, j);
        return numerator[k];
    }

    // ---- the formula ----

    /** The place of the first token that no formula has there, their number, or -1 for a formula. */
    private int findSyntaxFault() {
        int depth = 0;
        boolean operandNext = true;
        boolean signNext = true;
        for (int i = 0; i < tokenCount; i++) {
            int kind = tokenKind[i];
            boolean fits;
            if (operandNext) {
                fits = kind <= OPEN || (kind == MINUS && signNext);
            } else {
                fits = kind >= PLUS || (kind == CLOSE && depth > 0);
            }
            if (!fits) {
                return i;
            }
            if (kind == OPEN) {
                depth++;
            } else if (kind == CLOSE) {
                depth--;
            }
            operandNext = !endsOperand(kind);
            signNext = kind == OPEN;
        }
        return operandNext || depth > 0 ? tokenCount : -1;
    }

    private static boolean endsOperand(int kind) {
        return kind <= VAR || kind == CLOSE || kind == POWER || kind == PRIME;
    }

    /** Puts the tokens of a formula in the order in which they are worked out. */
    private void orderSteps() {
        stepCount = 0;
        waitingCount = 0;
        boolean operandNext = true;
        for (int i = 0; i < tokenCount; i++) {
            int kind = tokenKind[i];
            if (kind == MINUS && operandNext) {
                kind = NEGATE;
            }
            operandNext = !endsOperand(kind);
            if (kind <= VAR) {
                addStep(kind, i);
                // @ takes one atom, so it is due as soon as that atom is.
                releaseSteps(3);
            } else if (kind == CLOSE) {
                releaseSteps(1);
                dropOpen();
                releaseSteps(3);
            } else if (kind == POWER || kind == PRIME) {
                addStep(kind, i);
            } else if (kind == OPEN || kind == NEGATE || kind == AT) {
                holdBack(kind, i);
            } else {
                int rank = rankOf(kind);
                releaseSteps(rank);
                holdBack(kind, i);
            }
        }
        releaseSteps(1);
    }

    private static int rankOf(int kind) {
        if (kind == AT) {
            return 3;
        }
        if (kind == TIMES || kind == OVER) {
            return 2;
        }
        return kind == OPEN ? 0 : 1;
    }

    private void addStep(int kind, int tokenPlace) {
        if (stepCount < TOKENS) {
            stepKind[stepCount] = kind;
            stepToken[stepCount] = tokenPlace;
            stepCount++;
        }
    }

    private void holdBack(int kind, int tokenPlace) {
        if (waitingCount < TOKENS) {
            waitingKind[waitingCount] = kind;
            waitingToken[waitingCount] = tokenPlace;
            waitingCount++;
        }
    }

    /** Makes steps of the latest waiting operators, as long as their rank is not below the one given. */
    private void releaseSteps(int rank) {
        for (int last = waitingCount - 1; last >= 0; last--) {
            int kind = waitingKind[last];
            if (rankOf(kind) < rank) {
                break;
            }
            addStep(kind, waitingToken[last]);
            waitingCount = last;
        }
    }

    private void dropOpen() {
        if (waitingCount > 0) {
            waitingCount--;
        }
    }

    // ---- the steps: each leaves its value, not yet reduced, in top and bottom ----

    private static int countOperands(int kind) {
        if (kind <= VAR) {
            return 0;
        }
        return kind == NEGATE || kind == POWER || kind == PRIME ? 1 : 2;
    }

    private void loadOperands(int operands) {
        int last = PLACES + stackCount - 1;
        if (operands == 1) {
            load(last, 0, leftTop);
            load(last, 1, leftBottom);
        } else if (operands == 2) {
            load(last - 1, 0, leftTop);
            load(last - 1, 1, leftBottom);
            load(last, 0, rightTop);
            load(last, 1, rightBottom);
        }
    }

    private int work(int kind, int content) {
        switch (kind) {
            case NUM:
                return takeNumber(content);
            case X:
                return takeX();
            case VAR:
                return takeVariable(content);
            case PLUS:
                return addSides(1);
            case MINUS:
                return addSides(MODULUS - 1);
            case TIMES:
                return multiplySides();
            case OVER:
                return divideSides();
            case POWER:
                return raise(content);
            case PRIME:
                return differentiate();
            case AT:
                return compose();
            default:
                return negate();
        }
    }

    private int takeNumber(int content) {
        int c = modulo(content);
        setNumber(top, c);
        setNumber(bottom, 1);
        return OK;
    }

    private int takeX() {
        setNumber(top, 0);
        top[1] = 1;
        setNumber(bottom, 1);
        return OK;
    }

    private int takeVariable(int n) {
        if (!hasPart(n, 0)) {
            return EMPTY;
        }
        load(n, 0, top);
        load(n, 1, bottom);
        return OK;
    }

    private int addSides(int times) {
        multiply(leftTop, rightBottom, top);
        multiply(rightTop, leftBottom, product);
        addMultiple(top, product, times);
        multiply(leftBottom, rightBottom, bottom);
        return OK;
    }

    private int multiplySides() {
        multiply(leftTop, rightTop, top);
        multiply(leftBottom, rightBottom, bottom);
        return OK;
    }

    private int divideSides() {
        if (degreeOf(rightTop) < 0) {
            return ZERO;
        }
        multiply(leftTop, rightBottom, top);
        multiply(leftBottom, rightTop, bottom);
        return OK;
    }

    private int negate() {
        setNumber(top, 0);
        addMultiple(top, leftTop, MODULUS - 1);
        copy(leftBottom, bottom);
        return OK;
    }

    private int raise(int exponent) {
        if (exponent < 0 && degreeOf(leftTop) < 0) {
            return ZERO;
        }
        int times = exponent < 0 ? -exponent : exponent;
        // Powers of a reduced form are reduced: the size is known before anything is multiplied.
        if (sizeOf(leftTop, leftBottom) * times > LARGEST) {
            return TOO_LARGE;
        }
        setNumber(top, 1);
        setNumber(bottom, 1);
        for (int i = 0; i < times; i++) {
            multiply(top, leftTop, product);
            copy(product, top);
            multiply(bottom, leftBottom, product);
            copy(product, bottom);
        }
        if (exponent < 0) {
            exchange(top, bottom);
        }
        return OK;
    }

    private int differentiate() {
        takeDerivative(leftTop, spare);
        multiply(spare, leftBottom, top);
        takeDerivative(leftBottom, spare);
        multiply(spare, leftTop, product);
        addMultiple(top, product, MODULUS - 1);
        multiply(leftBottom, leftBottom, bottom);
        return OK;
    }

    private int compose() {
        int rightSize = sizeOf(rightTop, rightBottom);
        if (rightSize == 0 && valueAt(leftBottom, rightTop[0]) == 0) {
            return ZERO;
        }
        int leftSize = sizeOf(leftTop, leftBottom);
        if (leftSize * rightSize > LARGEST) {
            return TOO_LARGE;
        }
        substitute(leftTop, leftSize, top);
        substitute(leftBottom, leftSize, bottom);
        return OK;
    }

    /** The polynomial of at the right operand, times the right denominator to the power size. */
    private void substitute(int[] of, int size, int[] into) {
        setNumber(into, 0);
        setNumber(spare, 1);
        for (int k = size; k >= 0; k--) {
            multiply(into, rightTop, product);
            copy(product, into);
            addMultiple(into, spare, of[k]);
            multiply(spare, rightBottom, product);
            copy(product, spare);
        }
    }

    /** Reduces top / bottom and puts it on the stack instead of the operands. */
    private int settle(int operands) {
        cancel();
        if (sizeOf(top, bottom) > LARGEST) {
            return TOO_LARGE;
        }
        stackCount = stackCount - operands + 1;
        int slot = PLACES + stackCount - 1;
        keep(slot, 0, top);
        keep(slot, 1, bottom);
        return OK;
    }

    private void cancel() {
        findCommon();
        int degree = degreeOf(common);
        divide(top, common, degree, quotient);
        copy(quotient, top);
        divide(bottom, common, degree, quotient);
        copy(quotient, bottom);
        int last = degreeOf(bottom);
        if (last >= 0) {
            int scale = inverseOf(bottom[last]);
            multiplyByNumber(top, scale);
            multiplyByNumber(bottom, scale);
        }
    }

    /** Euclid's algorithm: common becomes a greatest common divisor of top and bottom. */
    private void findCommon() {
        copy(top, common);
        copy(bottom, spare);
        for (int turn = 0; turn < EUCLID_TURNS; turn++) {
            int degree = degreeOf(spare);
            if (degree < 0) {
                break;
            }
            divide(common, spare, degree, quotient);
            exchange(common, spare);
        }
    }

    // ---- factors and partial fractions ----

    private boolean hasFactor(int at, int part, int i) {
        if (!hasPart(at, part)) {
            return false;
        }
        split(at, part);
        return i >= 0 && i < factorCount;
    }

    /** Finds the factors of a part by trial, in their order; 0 is left without any. */
    private void split(int at, int part) {
        factorCount = 0;
        load(at, part, rest);
        int degree = degreeOf(rest);
        if (degree < 0) {
            return;
        }
        int scale = inverseOf(rest[degree]);
        multiplyByNumber(rest, scale);
        int codes = 1;
        for (int d = 1; d <= LARGEST / 2; d++) {
            codes *= MODULUS;
            for (int code = 0; code < codes; code++) {
                // What has no factor up to half its degree can't be split.
                if (degreeOf(rest) < 2 * d) {
                    break;
                }
                setMonic(divisor, d, code);
                takeOut(d);
            }
        }
        int left = degreeOf(rest);
        if (left > 0) {
            addFactor(rest, left, 1);
        }
    }

    /** The digits of code in base 5 are the lower numbers, so rising codes give the order of factors. */
    private static void setMonic(int[] a, int degree, int code) {
        setNumber(a, 0);
        int digits = code;
        for (int k = 0; k < degree; k++) {
            a[k] = digits % MODULUS;
            digits /= MODULUS;
        }
        a[degree] = 1;
    }

    private void takeOut(int degree) {
        int times = 0;
        for (int i = 0; i < LARGEST; i++) {
            copy(rest, spare);
            divide(spare, divisor, degree, quotient);
            if (degreeOf(spare) >= 0) {
                break;
            }
            copy(quotient, rest);
            times++;
        }
        if (times > 0) {
            addFactor(divisor, degree, times);
        }
    }

    private void addFactor(int[] a, int degree, int times) {
        if (factorCount < FACTORS) {
            factorDegrees[factorCount] = degree;
            factorPowers[factorCount] = times;
            for (int k = 0; k < HELD; k++) {
                factorCells[factorCount * HELD + k] = a[k];
            }
            factorCount++;
        }
    }

    /** Splits p / q into quotient + leftTop / leftBottom with the lower degree on top. */
    private void loadProperPart(int at) {
        load(at, 0, leftTop);
        load(at, 1, leftBottom);
        int degree = degreeOf(leftBottom);
        divide(leftTop, leftBottom, degree, quotient);
    }

    /** Takes one fraction after the other off leftTop / leftBottom, from factor i's highest power to j. */
    private void findNumerator(int i, int j) {
        int degree = factorDegrees[i];
        loadFactor(i, divisor);
        for (int n = 0; n < factorPowers[i]; n++) {
            divide(leftBottom, divisor, degree, quotient);
            copy(quotient, leftBottom);
        }
        findInverse(degree);
        for (int n = factorPowers[i]; n >= j; n--) {
            copy(leftTop, numerator);
            multiplyModulo(numerator, inverse, degree);
            multiply(numerator, leftBottom, product);
            addMultiple(leftTop, product, MODULUS - 1);
            divide(leftTop, divisor, degree, quotient);
            copy(quotient, leftTop);
        }
    }

    private void loadFactor(int i, int[] into) {
        setNumber(into, 0);
        for (int k = 0; k < HELD; k++) {
            into[k] = factorCells[i * HELD + k];
        }
    }

    /** What leftBottom gives 1 with, modulo divisor: its power 5^degree - 2, as in any field of 5^degree. */
    private void findInverse(int degree) {
        int exponent = 1;
        for (int n = 0; n < degree; n++) {
            exponent *= MODULUS;
        }
        exponent -= 2;
        setNumber(inverse, 1);
        copy(leftBottom, spare);
        for (int bit = 0; bit < EXPONENT_BITS; bit++) {
            if ((exponent >> bit & 1) == 1) {
                multiplyModulo(inverse, spare, degree);
            }
            copy(spare, common);
            multiplyModulo(spare, common, degree);
        }
    }

    private void multiplyModulo(int[] a, int[] b, int degree) {
        multiply(a, b, product);
        divide(product, divisor, degree, quotient);
        copy(product, a);
    }

    // ---- the slots ----

    private boolean hasPart(int at, int part) {
        return at >= 0 && at < PLACES && (part == 0 || part == 1) && present[at];
    }

    private boolean isZero(int at) {
        load(at, 0, rest);
        return degreeOf(rest) < 0;
    }

    private void load(int slot, int part, int[] into) {
        setNumber(into, 0);
        if (slot >= 0 && slot < SLOTS) {
            int start = (slot * 2 + part) * HELD;
            for (int k = 0; k < HELD; k++) {
                into[k] = cells[start + k];
            }
        }
    }

    private void keep(int slot, int part, int[] a) {
        if (slot >= 0 && slot < SLOTS) {
            int start = (slot * 2 + part) * HELD;
            for (int k = 0; k < HELD; k++) {
                cells[start + k] = a[k];
            }
        }
    }

    private void copySlot(int from, int to) {
        int size = 2 * HELD;
        for (int k = 0; k < size; k++) {
            cells[to * size + k] = cells[from * size + k];
        }
    }

    // ---- numbers and polynomials; every array here has WIDE numbers ----

    private static int modulo(int v) {
        int left = v % MODULUS;
        return left < 0 ? left + MODULUS : left;
    }

    /** c^4 is 1 for each c but 0. */
    private static int inverseOf(int c) {
        return c * c * c % MODULUS;
    }

    private static int degreeOf(int[] a) {
        for (int k = WIDE - 1; k >= 0; k--) {
            if (a[k] != 0) {
                return k;
            }
        }
        return -1;
    }

    private static int sizeOf(int[] above, int[] below) {
        int p = degreeOf(above);
        int q = degreeOf(below);
        return p > q ? p : q;
    }

    private static int valueAt(int[] a, int x) {
        int sum = 0;
        for (int k = WIDE - 1; k >= 0; k--) {
            sum = (sum * x + a[k]) % MODULUS;
        }
        return sum;
    }

    private static void setNumber(int[] a, int c) {
        for (int k = 1; k < WIDE; k++) {
            a[k] = 0;
        }
        a[0] = c;
    }

    private static void copy(int[] from, int[] to) {
        for (int k = 0; k < WIDE; k++) {
            to[k] = from[k];
        }
    }

    private static void exchange(int[] a, int[] b) {
        for (int k = 0; k < WIDE; k++) {
            int held = a[k];
            a[k] = b[k];
            b[k] = held;
        }
    }

    private static void multiplyByNumber(int[] a, int c) {
        for (int k = 0; k < WIDE; k++) {
            a[k] = a[k] * c % MODULUS;
        }
    }

    private static void addMultiple(int[] to, int[] a, int c) {
        for (int k = 0; k < WIDE; k++) {
            to[k] = (to[k] + c * a[k]) % MODULUS;
        }
    }

    /** into is another array than a and b. */
    private static void multiply(int[] a, int[] b, int[] into) {
        setNumber(into, 0);
        for (int i = 0; i < WIDE; i++) {
            for (int j = 0; i + j < WIDE; j++) {
                into[i + j] = (into[i + j] + a[i] * b[j]) % MODULUS;
            }
        }
    }

    private static void takeDerivative(int[] of, int[] into) {
        setNumber(into, 0);
        for (int k = 1; k < WIDE; k++) {
            into[k - 1] = of[k] * k % MODULUS;
        }
    }

    /** left becomes what the division by a polynomial of that degree leaves, into the quotient. */
    private static void divide(int[] left, int[] by, int degree, int[] into) {
        setNumber(into, 0);
        if (degree < 0 || degree >= WIDE) {
            return;
        }
        int scale = inverseOf(by[degree]);
        for (int shift = WIDE - 1 - degree; shift >= 0; shift--) {
            int times = left[shift + degree] * scale % MODULUS;
            into[shift] = times;
            for (int k = 0; k <= degree; k++) {
                left[shift + k] = (left[shift + k] + (MODULUS - times) * by[k]) % MODULUS;
            }
        }
    }
}
