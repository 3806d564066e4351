import java.util.ArrayList;
import java.util.Arrays;
import java.util.List;

/**
 * Runs of pseudo-random calls, the same ones each time, against a plain model: a recursive parser, polynomials of
 * any length, and the definitions of factors and partial fractions, checked by multiplying out.
 */
public final class ModelTest {
    private static final int RUNS = 3000;
    private static final int CALLS = 512;
    /** The calls of one round of a run are not more: 1 + 26 tokens + 4 + 12 times 4 questions + 1. */
    private static final int ROUND = 80;
    private static long seed = 20261115L;
    private static int wrong = 0;
    private static final int[] answers = new int[5];
    private static Ratio[] stored;

    public static void main(String[] args) {
        for (int run = 0; run < RUNS && wrong == 0; run++) {
            oneRun(run);
        }
        for (int n = 0; n < RUNS && wrong == 0; n++) {
            checkWhole(randomRatio(), "function " + n + ", ");
        }
        System.out.println("OK, SYNTAX, EMPTY, ZERO, TOO_LARGE: " + Arrays.toString(answers));
        for (int n : answers) {
            if (n < 100) {
                wrong++;
                System.out.println("an answer of evaluate is hardly tested");
            }
        }
        System.out.println(wrong == 0 ? "the model agrees" : wrong + " wrong");
        if (wrong != 0) {
            System.exit(1);
        }
    }

    private static int random(int below) {
        seed = seed * 6364136223846793005L + 1442695040888963407L;
        return (int) ((seed >>> 33) % below);
    }

    // ---- polynomials: numbers from x^0 up, without zeros at the end ----

    private static int[] poly(int... numbers) {
        int length = numbers.length;
        for (int i = 0; i < length; i++) {
            numbers[i] = Math.floorMod(numbers[i], 5);
        }
        while (length > 0 && numbers[length - 1] == 0) {
            length--;
        }
        return Arrays.copyOf(numbers, length);
    }

    private static int at(int[] a, int k) {
        return k >= 0 && k < a.length ? a[k] : 0;
    }

    private static int[] plus(int[] a, int[] b, int times) {
        int[] sum = new int[Math.max(a.length, b.length)];
        for (int k = 0; k < sum.length; k++) {
            sum[k] = at(a, k) + times * at(b, k);
        }
        return poly(sum);
    }

    private static int[] times(int[] a, int[] b) {
        int[] product = new int[a.length + b.length];
        for (int i = 0; i < a.length; i++) {
            for (int j = 0; j < b.length; j++) {
                product[i + j] += a[i] * b[j];
            }
        }
        return poly(product);
    }

    private static int inverse(int c) {
        for (int d = 1; d < 5; d++) {
            if (c * d % 5 == 1) {
                return d;
            }
        }
        throw new ArithmeticException();
    }

    private static int[][] divide(int[] a, int[] b) {
        int[] quotient = new int[Math.max(a.length - b.length + 1, 0)];
        int[] rest = a;
        while (rest.length >= b.length) {
            int shift = rest.length - b.length;
            int c = rest[rest.length - 1] * inverse(b[b.length - 1]) % 5;
            quotient[shift] = c;
            int[] part = new int[shift + 1];
            part[shift] = c;
            rest = plus(rest, times(part, b), -1);
        }
        return new int[][] {poly(quotient), rest};
    }

    private static int[] gcd(int[] a, int[] b) {
        return b.length == 0 ? a : gcd(b, divide(a, b)[1]);
    }

    private static int[] derivative(int[] a) {
        int[] d = new int[Math.max(a.length - 1, 0)];
        for (int k = 1; k < a.length; k++) {
            d[k - 1] = a[k] * k;
        }
        return poly(d);
    }

    private static int valueAt(int[] a, int x) {
        int sum = 0;
        int power = 1;
        for (int c : a) {
            sum += c * power;
            power = power * Math.floorMod(x, 5) % 5;
        }
        return sum % 5;
    }

    // ---- rational functions ----

    private record Ratio(int[] p, int[] q) {
        static Ratio of(int[] p, int[] q) {
            int[] g = gcd(p, q);
            int[] top = divide(p, g)[0];
            int[] bottom = divide(q, g)[0];
            int[] scale = {inverse(bottom[bottom.length - 1])};
            return new Ratio(ModelTest.times(top, scale), ModelTest.times(bottom, scale));
        }

        int size() {
            return Math.max(p.length, q.length) - 1;
        }

        Ratio plus(Ratio b, int sign) {
            return of(ModelTest.plus(ModelTest.times(p, b.q), ModelTest.times(b.p, q), sign), ModelTest.times(q, b.q));
        }

        Ratio times(Ratio b) {
            return of(ModelTest.times(p, b.p), ModelTest.times(q, b.q));
        }
    }

    private static final class Fault extends Exception {
        private static final long serialVersionUID = 1L;
        final int code;
        final int place;

        Fault(int code, int place) {
            super(null, null, false, false);
            this.code = code;
            this.place = place;
        }
    }

    /** Parses first, then works out: a tree of nodes, each with the place of its token. */
    private record Node(int kind, int value, int place, Node left, Node right) { }

    private static final class Parser {
        final List<int[]> tokens;
        int next = 0;

        Parser(List<int[]> tokens) {
            this.tokens = tokens;
        }

        int kind() {
            return next < tokens.size() ? tokens.get(next)[0] : -1;
        }

        Node formula() throws Fault {
            Node e = sum();
            if (next < tokens.size()) {
                throw new Fault(RationalDesk.SYNTAX, next);
            }
            return e;
        }

        Node sum() throws Fault {
            Node e;
            if (kind() == 6) {
                int place = next++;
                e = new Node(12, 0, place, term(), null);
            } else {
                e = term();
            }
            while (kind() == 5 || kind() == 6) {
                int place = next++;
                e = new Node(tokens.get(place)[0], 0, place, e, term());
            }
            return e;
        }

        Node term() throws Fault {
            Node t = postfixed();
            while (kind() == 7 || kind() == 8) {
                int place = next++;
                t = new Node(tokens.get(place)[0], 0, place, t, postfixed());
            }
            return t;
        }

        Node postfixed() throws Fault {
            Node f = atom();
            while (kind() >= 9) {
                int place = next++;
                int[] token = tokens.get(place);
                f = new Node(token[0], token[1], place, f, token[0] == 11 ? atom() : null);
            }
            return f;
        }

        Node atom() throws Fault {
            int place = next;
            int kind = kind();
            if (kind < 0 || kind > 3) {
                throw new Fault(RationalDesk.SYNTAX, place);
            }
            next++;
            if (kind < 3) {
                return new Node(kind, tokens.get(place)[1], place, null, null);
            }
            Node e = sum();
            if (kind() != 4) {
                throw new Fault(RationalDesk.SYNTAX, next);
            }
            next++;
            return e;
        }
    }

    private static Ratio work(Node node, Ratio[] places) throws Fault {
        Ratio a = node.left == null ? null : work(node.left, places);
        Ratio b = node.right == null ? null : work(node.right, places);
        Ratio value = operate(node, a, b, places);
        if (value.size() > 8) {
            throw new Fault(RationalDesk.TOO_LARGE, node.place);
        }
        return value;
    }

    private static Ratio operate(Node node, Ratio a, Ratio b, Ratio[] places) throws Fault {
        int[] one = {1};
        switch (node.kind) {
            case 0: return new Ratio(poly(Math.floorMod(node.value, 5)), one);
            case 1: return new Ratio(poly(0, 1), one);
            case 2: return variable(node, places);
            case 5: return a.plus(b, 1);
            case 6: return a.plus(b, -1);
            case 7: return a.times(b);
            case 8: return a.times(reciprocal(node, b));
            case 9: return power(node.value < 0 ? reciprocal(node, a) : a, Math.abs(node.value));
            case 10: return Ratio.of(plus(times(derivative(a.p), a.q), times(a.p, derivative(a.q)), -1), times(a.q, a.q));
            case 11: return compose(node, a, b);
            default: return new Ratio(plus(poly(), a.p, -1), a.q);
        }
    }

    private static Ratio variable(Node node, Ratio[] places) throws Fault {
        if (places[node.value] == null) {
            throw new Fault(RationalDesk.EMPTY, node.place);
        }
        return places[node.value];
    }

    private static Ratio reciprocal(Node node, Ratio a) throws Fault {
        if (a.p.length == 0) {
            throw new Fault(RationalDesk.ZERO, node.place);
        }
        return Ratio.of(a.q, a.p);
    }

    private static Ratio power(Ratio a, int n) {
        Ratio value = new Ratio(poly(1), poly(1));
        for (int i = 0; i < n; i++) {
            value = value.times(a);
        }
        return value;
    }

    private static Ratio compose(Node node, Ratio a, Ratio b) throws Fault {
        Ratio below = substitute(a.q, b);
        if (below.p.length == 0) {
            throw new Fault(RationalDesk.ZERO, node.place);
        }
        if (a.size() * b.size() > 8) {
            throw new Fault(RationalDesk.TOO_LARGE, node.place);
        }
        return substitute(a.p, b).times(Ratio.of(below.q, below.p));
    }

    private static Ratio substitute(int[] a, Ratio b) {
        Ratio value = new Ratio(poly(), poly(1));
        for (int k = a.length - 1; k >= 0; k--) {
            value = value.times(b).plus(new Ratio(poly(a[k]), poly(1)), 1);
        }
        return value;
    }

    // ---- the runs ----

    private static void due(String what, long got, long want) {
        if (got != want) {
            wrong++;
            System.out.println(what + " answered " + got + ", due is " + want);
        }
    }

    private static int edge(int low, int high) {
        int pick = random(12);
        if (pick == 0) {
            return random(2) == 0 ? Integer.MIN_VALUE : Integer.MAX_VALUE;
        }
        return low - 1 + random(high - low + 3);
    }

    private static void oneRun(int run) {
        RationalDesk desk = new RationalDesk();
        List<int[]> tokens = new ArrayList<>();
        Ratio[] places = new Ratio[7];
        stored = places;
        int place = -1;
        int calls = 0;
        while (calls <= CALLS - ROUND && wrong == 0) {
            String name = "run " + run + ", call " + calls + ", ";
            due(name + "wipe", desk.wipe(), tokens.size());
            tokens.clear();
            calls += 1 + type(desk, tokens, name);
            int code = RationalDesk.OK;
            places[6] = null;
            place = -1;
            try {
                places[6] = work(new Parser(tokens).formula(), places);
            } catch (Fault fault) {
                code = fault.code;
                place = fault.place;
            }
            answers[code]++;
            due(name + "evaluate " + show(tokens), desk.evaluate(), code);
            due(name + "place " + show(tokens), desk.place(), place);
            int n = edge(0, 5);
            boolean storable = n >= 0 && n <= 5 && places[6] != null;
            due(name + "store", desk.store(n) ? 1 : 0, storable ? 1 : 0);
            if (storable) {
                places[n] = places[6];
            }
            calls += 3;
            if (random(8) == 0) {
                n = edge(0, 5);
                boolean clears = n >= 0 && n <= 5 && places[n] != null;
                due(name + "clear", desk.clear(n) ? 1 : 0, clears ? 1 : 0);
                if (clears) {
                    places[n] = null;
                }
                calls++;
            }
            for (int i = 0; i < 12; i++) {
                calls += ask(desk, places, name);
            }
            due(name + "place", desk.place(), place);
            calls++;
        }
        if (run % 4 == 0) {
            checkPlaces(places, run);
        }
    }

    private static int type(RationalDesk desk, List<int[]> tokens, String name) {
        List<int[]> wanted = new ArrayList<>();
        if (random(6) == 0) {
            int count = random(10);
            for (int i = 0; i < count; i++) {
                wanted.add(new int[] {edge(0, 11), edge(-8, 8)});
            }
        } else {
            sum(wanted, 3);
            while (wanted.size() > 24 && random(20) > 0) {
                wanted.clear();
                sum(wanted, 3);
            }
        }
        if (random(12) == 0 && !wanted.isEmpty()) {
            wanted.remove(random(wanted.size()));
        }
        if (random(12) == 0 && !wanted.isEmpty()) {
            wanted.add(random(wanted.size()), new int[] {random(12), random(6)});
        }
        while (wanted.size() > 26) {
            wanted.remove(wanted.size() - 1);
        }
        for (int[] token : wanted) {
            boolean fits = token[0] >= 0 && token[0] <= 11 && tokens.size() < 24
                && !(token[0] == 2 && (token[1] < 0 || token[1] > 5))
                && !(token[0] == 9 && (token[1] < -8 || token[1] > 8));
            due(name + "token", desk.token(token[0], token[1]) ? 1 : 0, fits ? 1 : 0);
            if (fits) {
                tokens.add(token);
            }
        }
        return wanted.size();
    }

    private static void add(List<int[]> tokens, int kind, int value) {
        tokens.add(new int[] {kind, value});
    }

    private static void sum(List<int[]> tokens, int depth) {
        if (random(5) == 0) {
            add(tokens, 6, 0);
        }
        product(tokens, depth);
        for (int i = random(3); i > 0; i--) {
            add(tokens, 5 + random(2), 0);
            product(tokens, depth);
        }
    }

    private static void product(List<int[]> tokens, int depth) {
        postfixed(tokens, depth);
        if (random(2) == 0) {
            add(tokens, 7 + random(2), 0);
            postfixed(tokens, depth);
        }
    }

    private static void postfixed(List<int[]> tokens, int depth) {
        atom(tokens, depth);
        int pick = random(12);
        if (pick < 3) {
            add(tokens, 9, random(3) > 0 ? random(5) : random(17) - 8);
        } else if (pick == 3) {
            add(tokens, 10, random(99));
        } else if (pick == 4) {
            add(tokens, 11, random(99));
            atom(tokens, depth);
        }
    }

    private static void atom(List<int[]> tokens, int depth) {
        int pick = random(10);
        if (pick < 3 && depth > 0) {
            add(tokens, 3, 0);
            sum(tokens, depth - 1);
            add(tokens, 4, 0);
        } else if (pick < 5) {
            add(tokens, 0, random(3) == 0 ? random(2000) - 1000 : random(5));
        } else if (pick < 7) {
            add(tokens, 1, random(9));
        } else {
            add(tokens, 2, randomVariable());
        }
    }

    /** Mostly one in which something is stored: EMPTY would end most formulas otherwise. */
    private static int randomVariable() {
        int n = random(6);
        for (int i = 0; i < 6 && stored[n] == null && random(30) > 0; i++) {
            n = (n + 1) % 6;
        }
        return n;
    }

    private static String show(List<int[]> tokens) {
        StringBuilder text = new StringBuilder();
        for (int[] token : tokens) {
            text.append(" nxv()+-*/^'@".charAt(token[0] + 1));
            if (token[0] == 0 || token[0] == 2 || token[0] == 9) {
                text.append(token[1]);
            }
        }
        return text.toString();
    }

    private static Ratio there(Ratio[] places, int at) {
        return at >= 0 && at <= 6 ? places[at] : null;
    }

    /** Questions in the midst of others, so that an answer kept from another one would show; tells their number. */
    private static int ask(RationalDesk desk, Ratio[] places, String name) {
        int at = edge(0, 6);
        int part = random(10) == 0 ? edge(0, 1) : random(2);
        int k = edge(0, 8);
        Ratio r = there(places, at);
        int[] a = r == null || part < 0 || part > 1 ? null : part == 0 ? r.p : r.q;
        String arguments = "(" + at + ", " + part + ", " + k + ")";
        int pick = random(5);
        if (pick == 0) {
            due(name + "degree" + arguments, desk.degree(at, part), a == null ? -2 : a.length - 1);
        } else if (pick == 1) {
            due(name + "number" + arguments, desk.number(at, part, k), a == null ? 0 : k > 8 ? 0 : at(a, k));
        } else if (pick == 2) {
            int want = r == null ? -1 : valueAt(r.q, k) == 0 ? RationalDesk.POLE
                : valueAt(r.p, k) * inverse(valueAt(r.q, k)) % 5;
            due(name + "value" + arguments, desk.value(at, k), want);
        } else if (pick == 3) {
            List<int[]> found = a == null ? new ArrayList<>() : irreducibles(a);
            int i = edge(0, 2);
            int[] f = i >= 0 && i < found.size() ? found.get(i) : null;
            due(name + "factors" + arguments, desk.factors(at, part), a == null || r.p.length == 0 ? -1 : found.size());
            due(name + "factorDegree" + arguments, desk.factorDegree(at, part, i), f == null ? -1 : f.length - 1);
            due(name + "factor" + arguments, desk.factor(at, part, i, k), f == null || k > 8 ? 0 : at(f, k));
            due(name + "power" + arguments, desk.power(at, part, i), f == null ? 0 : multiplicity(a, f));
            return 4;
        } else {
            int want = r == null || k > 8 ? 0 : at(divide(r.p, r.q)[0], k);
            due(name + "fraction" + arguments, desk.fraction(at, -1, edge(0, 8), k), want);
        }
        return 1;
    }

    private static int multiplicity(int[] a, int[] f) {
        int times = 0;
        int[][] parts = divide(a, f);
        while (parts[1].length == 0) {
            times++;
            parts = divide(parts[0], f);
        }
        return times;
    }

    /** The monic polynomials that divide a and aren't split, in order: the next divisor found is one of them. */
    private static List<int[]> irreducibles(int[] a) {
        List<int[]> found = new ArrayList<>();
        int[] rest = a;
        for (int degree = 1; rest.length > 1; degree++) {
            if (2 * degree > rest.length - 1) {
                found.add(times(rest, new int[] {inverse(rest[rest.length - 1])}));
                break;
            }
            for (int[] f : monics(degree)) {
                if (rest.length > 1 && divide(rest, f)[1].length == 0) {
                    found.add(f);
                    while (divide(rest, f)[1].length == 0) {
                        rest = divide(rest, f)[0];
                    }
                }
            }
        }
        return found;
    }

    private static final List<List<int[]>> MONICS = new ArrayList<>();

    private static List<int[]> monics(int degree) {
        while (MONICS.size() <= degree) {
            List<int[]> all = new ArrayList<>();
            fill(all, new int[MONICS.size() + 1], MONICS.size());
            MONICS.add(all);
        }
        return MONICS.get(degree);
    }

    private static void fill(List<int[]> all, int[] numbers, int k) {
        if (k == numbers.length - 1) {
            numbers[k] = 1;
        }
        if (k == 0) {
            all.add(numbers.clone());
            return;
        }
        for (int c = 0; c < 5; c++) {
            numbers[k - 1] = c;
            fill(all, numbers, k - 1);
        }
    }

    private static void checkPlaces(Ratio[] places, int run) {
        for (int at = 0; at <= 6; at++) {
            if (places[at] != null) {
                checkWhole(places[at], "run " + run + ", place " + at + ", ");
            }
        }
    }

    /** The factors multiply out to each part, the partial fractions add up to the function. */
    private static void checkWhole(Ratio r, String name) {
        RationalDesk desk = rebuild(r);
        checkProduct(desk, 0, r.p, name);
        checkProduct(desk, 1, r.q, name);
        checkSum(desk, r, name);
    }

    /** A function of size 8 or less, with powers in p and q more often than chance would have it. */
    private static Ratio randomRatio() {
        int[] p = randomPolynomial();
        int[] q = randomPolynomial();
        return q.length == 0 ? new Ratio(p, poly(1)) : Ratio.of(p, q);
    }

    private static int[] randomPolynomial() {
        int[] a = poly(random(5));
        for (int i = random(6); i > 0; i--) {
            int[] f = new int[random(9) + 1];
            for (int k = 0; k < f.length; k++) {
                f[k] = random(5);
            }
            for (int n = random(4); n >= 0; n--) {
                int[] b = times(a, poly(f.clone()));
                a = b.length > 9 ? a : b;
            }
        }
        return a;
    }

    /** The function on a new object, typed in as Horner's form of p and q. */
    private static RationalDesk rebuild(Ratio r) {
        RationalDesk desk = new RationalDesk();
        for (int part = 0; part < 2; part++) {
            int[] a = part == 0 ? r.p : r.q;
            desk.wipe();
            desk.token(0, 0);
            desk.evaluate();
            desk.store(part);
            for (int k = a.length - 1; k >= 0; k--) {
                desk.wipe();
                desk.token(2, part);
                desk.token(7, 0);
                desk.token(1, 0);
                desk.token(5, 0);
                desk.token(0, a[k]);
                desk.evaluate();
                desk.store(part);
            }
        }
        desk.wipe();
        desk.token(2, 0);
        desk.token(8, 0);
        desk.token(2, 1);
        due("rebuild", desk.evaluate(), RationalDesk.OK);
        return desk;
    }

    private static int[] factorOf(RationalDesk desk, int part, int i) {
        int[] f = new int[9];
        for (int k = 0; k <= 8; k++) {
            f[k] = desk.factor(6, part, i, k);
        }
        return poly(f);
    }

    private static void checkProduct(RationalDesk desk, int part, int[] a, String name) {
        if (a.length == 0) {
            return;
        }
        int[] product = {a[a.length - 1]};
        int count = desk.factors(6, part);
        for (int i = 0; i < count; i++) {
            int[] f = factorOf(desk, part, i);
            due(name + "monic", at(f, f.length - 1), 1);
            due(name + "degree of factor", f.length - 1, desk.factorDegree(6, part, i));
            due(name + "splits", irreducibles(f).size() == 1 && multiplicity(f, irreducibles(f).get(0)) == 1 ? 1 : 0, 1);
            for (int n = desk.power(6, part, i); n > 0; n--) {
                product = times(product, f);
            }
        }
        due(name + "product of factors", Arrays.equals(product, a) ? 1 : 0, 1);
    }

    private static int[] fractionOf(RationalDesk desk, int i, int j) {
        int[] c = new int[9];
        for (int k = 0; k <= 8; k++) {
            c[k] = desk.fraction(6, i, j, k);
        }
        return poly(c);
    }

    private static void checkSum(RationalDesk desk, Ratio r, String name) {
        Ratio sum = new Ratio(fractionOf(desk, -1, 0), poly(1));
        int count = desk.factors(6, 1);
        for (int i = 0; i < count; i++) {
            int[] f = factorOf(desk, 1, i);
            int[] power = {1};
            for (int j = 1; j <= desk.power(6, 1, i); j++) {
                power = times(power, f);
                int[] c = fractionOf(desk, i, j);
                due(name + "degree of c", c.length < f.length ? 1 : 0, 1);
                sum = sum.plus(Ratio.of(c, power), 1);
            }
        }
        boolean same = Arrays.equals(sum.p, r.p) && Arrays.equals(sum.q, r.q);
        due(name + "sum of fractions", same ? 1 : 0, 1);
    }
}
