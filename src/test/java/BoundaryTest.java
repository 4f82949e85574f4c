/**
 * A test of its own for each sentence of the document that names a boundary case: too small, too
 * large, empty, full, a wrap-around, a refused call. Each begins with the place and the words that
 * it stands for, and what is wrong is told with them. What stands in brackets there is the test's
 * own, and so is "changes nothing": the document tells no change for a call that throws.
 */
public final class BoundaryTest {
    private static final int X = 1 << 24;
    private static final int Y = 1 << 16;
    private static final int Z = 1 << 8;
    private static final int W = 1;
    private static final int[] UNITS = {X, Y, Z, W};
    private static final int[] HIGHEST = {30, 12, 7, 5};
    private static final int MIN = Integer.MIN_VALUE;
    private static final int MAX = Integer.MAX_VALUE;
    private static final int NONE = RemnantDictionary.NONE;
    private static final int DONE = -1000;
    private static final int ARGUMENT = -1001;
    private static final int STATE = -1002;
    private static final int ANOTHER = -1003;

    private static String words = "";
    private static int sentences = 0;
    private static int asked = 0;
    private static int wrong = 0;

    private static void sentence(String place, String text) {
        words = place + ", \"" + text + "\"";
        sentences++;
    }

    private static void compare(String call, int want, int got) {
        asked++;
        if (got != want) {
            wrong++;
            System.out.println(words + ": " + call + " answered " + told(got) + ", due is " + told(want));
        }
    }

    private static String told(int answer) {
        switch (answer) {
            case DONE:
                return "nothing";
            case ARGUMENT:
                return "throws.IllegalArgumentException";
            case STATE:
                return "throws.IllegalStateException";
            case ANOTHER:
                return "another exception";
            default:
                return String.valueOf(answer);
        }
    }

    /** The document names these two classes, and no other class, below or above them, will do. */
    private static int thrown(RuntimeException e) {
        if (e.getClass() == IllegalArgumentException.class) {
            return ARGUMENT;
        }
        return e.getClass() == IllegalStateException.class ? STATE : ANOTHER;
    }

    /** One object, the number of calls on it, and the answer that is due from the next one. */
    private static final class Run {
        private final RemnantDictionary object = new RemnantDictionary();
        private int calls = 0;
        private int want = DONE;

        Run due(int answer) {
            want = answer;
            return this;
        }

        private int answered(String call, int got) {
            calls++;
            compare(call, want, got);
            want = DONE;
            if (calls > 512) {
                wrong++;
                System.out.println(words + ": the test makes more than 512 calls");
            }
            return got;
        }

        Run field(int p, int n, int order) {
            int got = DONE;
            try {
                object.field(p, n, order);
            } catch (RuntimeException e) {
                got = thrown(e);
            }
            answered("field(" + p + ", " + n + ", " + order + ")", got);
            return this;
        }

        Run coefficient(int e, int c) {
            int got = DONE;
            try {
                object.coefficient(e, c);
            } catch (RuntimeException x) {
                got = thrown(x);
            }
            answered("coefficient(" + e + ", " + c + ")", got);
            return this;
        }

        int hand(int e) {
            return answered("hand(" + e + ")", object.hand(e));
        }

        int join() {
            int got;
            try {
                got = object.join();
            } catch (RuntimeException e) {
                got = thrown(e);
            }
            return answered("join()", got);
        }

        void clear() {
            object.clear();
            answered("clear()", DONE);
        }

        int find(int d) {
            int got;
            try {
                got = object.find(d);
            } catch (RuntimeException e) {
                got = thrown(e);
            }
            return answered("find(" + d + ")", got);
        }

        int left(int k) {
            return answered("left(" + k + ")", object.left(k));
        }

        int times(int v, int k, int j) {
            return answered("times(" + v + ", " + k + ", " + j + ")", object.times(v, k, j));
        }

        int dictionary() {
            return answered("dictionary()", object.dictionary());
        }

        int entry(int k, int j, int what) {
            return answered("entry(" + k + ", " + j + ", " + what + ")", object.entry(k, j, what));
        }

        /** Makes the polynomial with these monomials and coefficients, told in turn, generator number g. */
        Run generator(int g, int... terms) {
            for (int i = 0; i + 1 < terms.length; i += 2) {
                coefficient(terms[i], terms[i + 1]);
            }
            due(g).join();
            return this;
        }

        /** Makes these monomials the generators. */
        Run monomials(int... codes) {
            clear();
            for (int i = 0; i < codes.length; i++) {
                generator(i + 1, codes[i], 1);
            }
            return this;
        }

        /** All monomials that are left over, and none behind them. */
        void lefts(int... codes) {
            for (int k = 0; k < codes.length; k++) {
                due(codes[k]).left(k);
            }
            due(NONE).left(codes.length);
        }

        /** All terms of polynomial k, and none behind them. */
        void polynomial(int k, int... terms) {
            for (int j = 0; 2 * j + 1 < terms.length; j++) {
                due(terms[2 * j]).entry(k, j, 0);
                due(terms[2 * j + 1]).entry(k, j, 1);
            }
            due(NONE).entry(k, terms.length / 2, 0);
            due(NONE).entry(k, terms.length / 2, 1);
        }

        void nothingFound() {
            due(NONE).left(0);
            due(NONE).times(0, 0, 0);
            due(0).dictionary();
            due(NONE).entry(0, 0, 0);
            due(NONE).entry(0, 0, 1);
        }

        /** x x - 3 y and y y - 2 modulo 7, of two variables, as generators. */
        Run sampleJoined() {
            return field(7, 2, 0).generator(1, 2 * X, 1, Y, -3).generator(2, 2 * Y, 1, 0, -2);
        }

        Run sampleFound() {
            sampleJoined().due(4).find(12);
            return this;
        }

        void sampleIsTold() {
            lefts(0, Y, X, X + Y);
            due(3).times(0, 2, 1);
            due(6).times(0, 3, 0);
            due(2).times(1, 3, 2);
            due(NONE).times(2, 0, 0);
            due(2).dictionary();
            polynomial(0, 2 * Y, 1, 0, 5);
            polynomial(1, 2 * X, 1, Y, 4);
        }
    }

    private static Run over(int p, int n, int order) {
        return new Run().field(p, n, order);
    }

    // Promise 1: A new object

    private static void newPrime() {
        sentence("Promise 1", "P is 7");
        Run r = new Run();
        int[][] cases = {{6, 6}, {7, 0}, {8, 1}, {-1, 6}, {-7, 0}, {14, 0}};
        for (int[] pair : cases) {
            r.coefficient(0, pair[0]).due(pair[1]).hand(0);
        }
        r.generator(1, 2 * X, 3, 0, 1).generator(2, Y, 1).due(2).find(2);
        r.due(2).times(0, 1, 0);
    }

    private static void newVariables() {
        sentence("Promise 1", "N is 2");
        Run r = new Run();
        r.coefficient(X, 1).coefficient(Y, 1).coefficient(12 * X, 1).coefficient(12 * Y, 1);
        r.due(ARGUMENT).coefficient(Z, 1).due(ARGUMENT).coefficient(W, 1);
        r.due(ARGUMENT).coefficient(13 * X, 1).due(ARGUMENT).coefficient(13 * Y, 1);
        r.due(STATE).find(12);
        r.due(ARGUMENT).find(13);
        r.monomials(X, Y).due(1).find(1);
        r.due(0).times(1, 0, 0);
        r.due(NONE).times(2, 0, 0);
    }

    /** With two variables both orders are the same one: this shows that it is by degree, and x over y. */
    private static void newOrder() {
        sentence("Promise 1", "ORDER 0");
        Run r = new Run();
        r.monomials(3 * X, 3 * Y).due(9).find(3);
        r.lefts(0, Y, X, 2 * Y, X + Y, 2 * X, X + 2 * Y, 2 * X + Y, 2 * X + 2 * Y);
    }

    private static void newGenerators() {
        sentence("Promise 1", "No generators");
        Run r = new Run();
        r.due(STATE).find(0);
        r.due(STATE).find(12);
        r.generator(1, X, 1).generator(2, Y, 1).due(1).find(1);
    }

    private static void newHand() {
        sentence("Promise 1", "the polynomial in hand is 0");
        Run r = new Run();
        for (int x = 0; x <= 12; x++) {
            for (int y = 0; x + y <= 12; y++) {
                r.due(0).hand(x * X + y * Y);
            }
        }
        r.due(ARGUMENT).join();
    }

    private static void newFound() {
        sentence("Promise 1", "Nothing is found");
        Run r = new Run();
        r.nothingFound();
        r.due(ARGUMENT).find(-1);
        r.due(ARGUMENT).find(13);
        r.nothingFound();
    }

    // Promise 2: field

    private static void fieldPrimeTooSmall() {
        sentence("Promise 2", "IllegalArgumentException: P is no prime (too small)");
        Run r = new Run();
        for (int p : new int[] {1, 0, -1, -2, -3, -7, -32003, MIN, MIN + 1}) {
            r.due(ARGUMENT).field(p, 2, 0);
        }
        r.field(2, 2, 0).coefficient(X, 3).due(1).hand(X);
        r.coefficient(X, 2).due(0).hand(X);
    }

    private static void fieldPrimeTooLarge() {
        sentence("Promise 2", "IllegalArgumentException: P is no prime up to 32003");
        Run r = new Run();
        for (int p : new int[] {32004, 32005, 32009, 32027, 46337, 46349, 65521, 65537, 65536 + 7, MAX - 1, MAX}) {
            r.due(ARGUMENT).field(p, 2, 0);
        }
        r.field(32003, 2, 0).coefficient(X, 32002).due(32002).hand(X);
        r.coefficient(X, 32003).due(0).hand(X);
        r.field(31991, 2, 0).coefficient(X, 31991).due(0).hand(X);
    }

    private static void fieldNoPrime() {
        sentence("Promise 2", "IllegalArgumentException: P is no prime");
        Run r = new Run();
        for (int p : new int[] {4, 6, 8, 9, 15, 25, 49, 121, 169, 561, 1024, 1729, 29929, 31329, 31999, 32001, 32002}) {
            r.due(ARGUMENT).field(p, 2, 0);
        }
        for (int p : new int[] {2, 3, 5, 7, 11, 13, 173, 177 + 2, 29927, 31327, 31991, 32003}) {
            r.field(p, 2, 0).coefficient(0, -1).due(p - 1).hand(0);
        }
    }

    private static void fieldVariables() {
        sentence("Promise 2", "IllegalArgumentException: N not 1 .. 4");
        Run r = new Run();
        for (int n : new int[] {0, -1, -4, MIN, 5, 6, 8, 257, MAX}) {
            r.due(ARGUMENT).field(7, n, 0);
        }
        for (int n = 1; n <= 4; n++) {
            r.field(7, n, 0).coefficient(HIGHEST[n - 1] * UNITS[n - 1], 1);
            r.due(ARGUMENT).coefficient((HIGHEST[n - 1] + 1) * UNITS[n - 1], 1);
        }
    }

    private static void fieldOrder() {
        sentence("Promise 2", "IllegalArgumentException: ORDER not 0 or 1");
        Run r = new Run();
        for (int order : new int[] {-1, 2, 3, 256, MIN, MAX}) {
            r.due(ARGUMENT).field(7, 3, order);
        }
        r.field(7, 3, 0).monomials(2 * X, 3 * Y, 2 * Z).due(12).find(3);
        r.lefts(0, Z, Y, X, Y + Z, X + Z, 2 * Y, X + Y, 2 * Y + Z, X + Y + Z, X + 2 * Y, X + 2 * Y + Z);
        r.field(7, 3, 1).monomials(2 * X, 3 * Y, 2 * Z).due(12).find(3);
        r.lefts(0, Z, Y, X, Y + Z, 2 * Y, X + Z, X + Y, 2 * Y + Z, X + Y + Z, X + 2 * Y, X + 2 * Y + Z);
    }

    private static void fieldGenerators() {
        sentence("Promise 2", "no generators");
        Run r = over(7, 1, 0);
        for (int g = 1; g <= 8; g++) {
            r.generator(g, X, 1, 0, g);
        }
        r.coefficient(X, 1).due(STATE).join();
        r.field(7, 1, 0).due(STATE).find(30);
        r.generator(1, X, 1).due(1).find(1);
        r.field(7, 1, 0).due(STATE).find(30);
        r.generator(1, 2 * X, 1).due(2).find(2);
    }

    private static void fieldHand() {
        sentence("Promise 2", "the polynomial in hand is 0");
        for (int n = 1; n <= 4; n++) {
            Run r = over(7, 4, 0).coefficient(0, 1).coefficient(X, 2).coefficient(5 * X, 3).coefficient(5 * W, 4);
            r.field(7, n, 0);
            r.due(0).hand(0);
            r.due(0).hand(X);
            r.due(0).hand(5 * X);
            r.due(0).hand(5 * W);
            r.due(ARGUMENT).join();
            r.field(7, 4, 0).due(ARGUMENT).join();
        }
    }

    private static void fieldRefused() {
        sentence("Promise 2", "a refused field changes nothing");
        int[][] refused = {{1, 3, 0}, {4, 3, 1}, {32009, 1, 1}, {5, 0, 1}, {5, 5, 0}, {5, 3, 2}, {5, 1, -1}, {0, 0, 2}};
        for (int[] f : refused) {
            Run r = new Run().sampleFound().coefficient(Y, 6);
            r.due(ARGUMENT).field(f[0], f[1], f[2]);
            r.sampleIsTold();
            r.due(6).hand(Y);
            r.coefficient(Y, 13).due(6).hand(Y);
            r.due(ARGUMENT).coefficient(Z, 1);
            r.coefficient(12 * Y, 1).coefficient(12 * Y, 0).coefficient(Y, 0);
            r.due(4).find(12);
            r.sampleIsTold();
            r.generator(3, X, 1).due(STATE).find(12);
        }
    }

    /** The order, too, is the one before: shown with three variables, where the two differ. */
    private static void fieldRefusedOrder() {
        sentence("Promise 2", "a refused field changes nothing (ORDER)");
        Run r = over(7, 3, 1).monomials(2 * X, 3 * Y, 2 * Z);
        r.due(ARGUMENT).field(6, 3, 0).due(ARGUMENT).field(7, 5, 0);
        r.due(12).find(3);
        r.due(2 * Y).left(5);
        r.due(X + Z).left(6);
    }

    // Promise 3: coefficient

    private static void coefficientModulo() {
        sentence("Promise 3", "has a coefficient (modulo P)");
        for (int p : new int[] {2, 3, 7, 31991, 32003}) {
            Run r = over(p, 2, 1);
            int[] numbers = {0, 1, -1, p - 1, p, p + 1, -p + 1, -p, -p - 1, 2 * p, 2 * p - 1, MIN, MIN + 1, MAX, MAX - 1};
            for (int c : numbers) {
                int due = (int) (((long) c % p + p) % p);
                r.coefficient(X + Y, c).due(due).hand(X + Y);
            }
        }
    }

    private static void coefficientReplaces() {
        sentence("Promise 3", "has a coefficient at a monomial (again, and 0)");
        Run r = over(7, 2, 0).coefficient(X, 3).coefficient(X, 5);
        r.due(5).hand(X);
        r.coefficient(X, 0).due(0).hand(X);
        r.due(ARGUMENT).join();
        r.coefficient(X, 4).coefficient(X, -7).due(ARGUMENT).join();
    }

    private static void coefficientMonomials() {
        sentence("Promise 3", "IllegalArgumentException: e is no monomial of the variables up to HIGHEST");
        for (int n = 1; n <= 4; n++) {
            int top = HIGHEST[n - 1];
            Run r = over(3, n, n % 2);
            for (int code : codesAround(n)) {
                if (r.calls > 500) {
                    r = over(3, n, n % 2);
                }
                r.due(isMonomial(code, n) ? DONE : ARGUMENT).coefficient(code, 1);
            }
            r = over(3, n, n % 2);
            r.coefficient(0, 1).coefficient(top * X, 1).coefficient(top * UNITS[n - 1], 1);
            r.coefficient((top - 1) * X + UNITS[n - 1], 1);
            r.due(ARGUMENT).coefficient((top + 1) * X, 1).due(ARGUMENT).coefficient(top * X + UNITS[n - 1], 1);
        }
    }

    /** All codes with exponents from 0 to one above HIGHEST, those of variables beyond n 0 or 1. */
    private static int[] codesAround(int n) {
        int[] codes = {0};
        for (int v = 0; v < 4; v++) {
            int most = v < n ? HIGHEST[n - 1] + 1 : 1;
            int[] longer = new int[codes.length * (most + 1)];
            for (int i = 0; i < longer.length; i++) {
                longer[i] = codes[i / (most + 1)] + i % (most + 1) * UNITS[v];
            }
            codes = longer;
        }
        return codes;
    }

    private static boolean isMonomial(int code, int n) {
        int degree = 0;
        for (int v = 0; v < 4; v++) {
            int exponent = code / UNITS[v] % 256;
            if (v >= n && exponent > 0) {
                return false;
            }
            degree += exponent;
        }
        return degree <= HIGHEST[n - 1];
    }

    /** Numbers below 0, and exponents so high that their sum, or the number, would wrap around. */
    private static final int[] NO_MONOMIALS = {-1, -2, -X, -Y, -Z, X - Y, Y - Z, Z - W, MIN, MIN + 1, MIN + X, MAX, MAX - 1,
        127 * X, 255 * Y, 255 * Z, 255 * W, 128 * Y + 128 * Z, 31 * X, 64 * X + 64 * Y + 64 * Z + 64 * W, -X + Y, 255 * Y + W};

    private static void coefficientWraps() {
        sentence("Promise 3", "IllegalArgumentException: e is no monomial (below 0, or a wrap-around)");
        for (int n = 1; n <= 4; n++) {
            Run r = over(3, n, 0);
            for (int e : NO_MONOMIALS) {
                r.due(ARGUMENT).coefficient(e, 1);
            }
            r.due(ARGUMENT).join();
        }
    }

    private static void coefficientRefused() {
        sentence("Promise 3", "a refused coefficient changes nothing");
        Run r = new Run().sampleFound().coefficient(12 * X, 2).coefficient(0, 3);
        for (int e : new int[] {13 * X, 12 * X + Y, 13 * Y, Z, W, -1, MIN, MAX}) {
            r.due(ARGUMENT).coefficient(e, 5);
            r.due(2).hand(12 * X);
            r.due(3).hand(0);
            r.due(0).hand(e);
        }
        r.sampleIsTold();
        r.coefficient(12 * X, 0).coefficient(0, 0).due(ARGUMENT).join();
        r.generator(3, X, 1);
    }

    // Promise 4: hand

    private static void handOfNone() {
        sentence("Promise 4", "0 if e is none");
        for (int n = 1; n <= 4; n++) {
            Run r = over(5, n, 0);
            int top = HIGHEST[n - 1];
            r.coefficient(0, 1).coefficient(X, 2).coefficient(top * X, 3).coefficient(top * UNITS[n - 1], 4);
            for (int e : NO_MONOMIALS) {
                r.due(0).hand(e);
            }
            r.due(0).hand((top + 1) * X);
            r.due(0).hand((top + 1) * UNITS[n - 1]);
            for (int v = n; v < 4; v++) {
                r.due(0).hand(UNITS[v]);
                r.due(0).hand(X + UNITS[v]);
                r.due(0).hand(top * X + UNITS[v]);
            }
        }
    }

    private static void handOfEdges() {
        sentence("Promise 4", "The coefficient of a monomial in the polynomial in hand");
        for (int n = 1; n <= 4; n++) {
            Run r = over(32003, n, n % 2);
            int top = HIGHEST[n - 1];
            r.coefficient(0, 11);
            for (int v = 0; v < n; v++) {
                r.coefficient(top * UNITS[v], 20 + v).coefficient(UNITS[v], 30 + v);
            }
            r.due(11).hand(0);
            for (int v = 0; v < n; v++) {
                r.due(20 + v).hand(top * UNITS[v]);
                r.due(30 + v).hand(UNITS[v]);
                r.due(0).hand(2 * UNITS[v]);
                r.due(0).hand((top - 1) * UNITS[v]);
            }
        }
    }

    private static void handOfShrunkField() {
        sentence("Promise 4", "0 if e is none (by the variables and HIGHEST that there are now)");
        Run r = over(5, 1, 0).coefficient(30 * X, 1);
        r.due(1).hand(30 * X);
        r.field(5, 2, 0).due(0).hand(30 * X);
        r.coefficient(12 * Y, 2).due(2).hand(12 * Y);
        r.field(5, 1, 0).due(0).hand(12 * Y);
    }

    // Promise 5: join

    private static void joinCounts() {
        sentence("Promise 5", "comes to the generators: how many there are");
        Run r = new Run();
        for (int g = 1; g <= 8; g++) {
            r.generator(g, X, 1);
        }
        r.clear();
        r.generator(1, 12 * X, 1).generator(2, 0, 6).generator(3, 12 * Y, 1);
    }

    private static void joinEmptiesTheHand() {
        sentence("Promise 5", "The polynomial in hand, which is 0 then");
        Run r = new Run().coefficient(0, 1).coefficient(X, 2).coefficient(12 * X, 3).coefficient(12 * Y, 4);
        r.due(1).join();
        r.due(0).hand(0);
        r.due(0).hand(X);
        r.due(0).hand(12 * X);
        r.due(0).hand(12 * Y);
        r.due(ARGUMENT).join();
    }

    private static void joinOf0() {
        sentence("Promise 5", "IllegalArgumentException: it is 0");
        Run r = new Run();
        r.due(ARGUMENT).join();
        r.coefficient(X, 0).due(ARGUMENT).join();
        r.coefficient(X, 7).coefficient(0, -14).due(ARGUMENT).join();
        r.coefficient(X, 1).coefficient(X, 7).due(ARGUMENT).join();
        r.generator(1, X, 1).due(ARGUMENT).join();
        r.coefficient(X, 1).clear();
        r.due(ARGUMENT).join();
        r.coefficient(X, 1).field(7, 2, 0).due(ARGUMENT).join();
        r.generator(1, 12 * X, 1);
        r.generator(2, 0, 1);
    }

    private static Run full() {
        Run r = over(7, 2, 0).generator(1, 2 * X, 1, Y, -3).generator(2, 2 * Y, 1, 0, -2);
        for (int g = 3; g <= 8; g++) {
            r.generator(g, 2 * Y, g == 7 ? 1 : g, 0, -2 * (g == 7 ? 1 : g));
        }
        return r;
    }

    private static void joinWhenFull() {
        sentence("Promise 5", "IllegalStateException: there are 8");
        Run r = full();
        r.coefficient(X, 5).due(STATE).join();
        r.due(STATE).join();
        r.clear();
        r.generator(1, X, 1);
    }

    private static void joinWhenFullOf0() {
        sentence("Promise 5", "IllegalArgumentException: it is 0. (also when there are 8)");
        Run r = full();
        r.due(ARGUMENT).join();
        r.due(4).find(12);
    }

    private static void joinRefused() {
        sentence("Promise 5", "a refused join changes nothing");
        Run r = full();
        r.due(4).find(12);
        r.coefficient(X, 5).coefficient(0, 1).due(STATE).join();
        r.due(5).hand(X);
        r.due(1).hand(0);
        r.sampleIsTold();
        r.due(4).find(12);
        r.sampleIsTold();
        Run s = new Run().sampleFound();
        s.due(ARGUMENT).join();
        s.sampleIsTold();
        s.due(4).find(12);
        s.generator(3, X, 1);
    }

    private static void joinKeepsFormerGenerators() {
        sentence("Terms", "There are at most 8 GENERATORS (all of them count)");
        int[] codes = {2 * W, 2 * Z, Y + Z, 2 * Y, X + W, X + Z, X + Y, 2 * X};
        Run r = over(7, 4, 0);
        r.monomials(codes).due(7).find(3);
        r.lefts(0, W, Z, Y, X, Z + W, Y + W);
        r.due(8).dictionary();
        for (int k = 0; k < 8; k++) {
            r.polynomial(k, codes[k], 1);
        }
        r.due(NONE).entry(8, 0, 0);
    }

    // Promise 6: clear

    private static void clearOfNothing() {
        sentence("Promise 6", "No generators; the polynomial in hand is 0 (when it was so before)");
        Run r = new Run();
        r.clear();
        r.clear();
        r.nothingFound();
        r.due(ARGUMENT).join();
        r.due(STATE).find(12);
        r.generator(1, X, 1);
    }

    private static void clearOfFull() {
        sentence("Promise 6", "No generators");
        Run r = full();
        r.clear();
        r.due(STATE).find(12);
        for (int g = 1; g <= 8; g++) {
            r.generator(g, g % 2 == 0 ? X : Y, g == 7 ? 1 : g);
        }
        r.coefficient(X, 1).due(STATE).join();
        r.due(1).find(1);
    }

    private static void clearOfHand() {
        sentence("Promise 6", "the polynomial in hand is 0");
        Run r = new Run().coefficient(0, 1).coefficient(12 * X, 2).coefficient(12 * Y, 3);
        r.clear();
        r.due(0).hand(0);
        r.due(0).hand(12 * X);
        r.due(0).hand(12 * Y);
        r.due(ARGUMENT).join();
    }

    private static void clearKeepsTheField() {
        sentence("Promise 6", "clear says nothing of P, N, ORDER, nor of what is found");
        Run r = over(11, 3, 1);
        r.monomials(2 * X, 3 * Y, 2 * Z);
        r.coefficient(7 * Z, -1).due(10).hand(7 * Z);
        r.due(ARGUMENT).coefficient(W, 1);
        r.due(12).find(3);
        r.clear();
        r.due(2 * Y).left(5);
        r.due(X + Z).left(6);
        r.due(3).dictionary();
        Run s = new Run().sampleFound();
        s.clear();
        s.sampleIsTold();
    }

    // Promise 7: find, and the terms that it goes by

    private static void findDegreeTooSmall() {
        sentence("Promise 7", "IllegalArgumentException: d is not 0 .. HIGHEST (too small)");
        for (int n = 1; n <= 4; n++) {
            Run r = over(7, n, 0);
            r.due(ARGUMENT).find(-1);
            r.due(ARGUMENT).find(-2);
            r.due(ARGUMENT).find(MIN);
            r.due(STATE).find(0);
        }
    }

    private static void findDegreeTooLarge() {
        sentence("Promise 7", "IllegalArgumentException: d is not 0 .. HIGHEST (too large)");
        for (int n = 1; n <= 4; n++) {
            Run r = over(7, n, 0);
            r.due(STATE).find(HIGHEST[n - 1]);
            for (int v = 0; v < n; v++) {
                r.generator(v + 1, UNITS[v], 1, 0, 1);
            }
            r.due(1).find(HIGHEST[n - 1]);
            r.due(ARGUMENT).find(HIGHEST[n - 1] + 1);
            r.due(ARGUMENT).find(MAX);
        }
        Run r = over(7, 1, 0).generator(1, X, 1);
        r.due(1).find(30);
        for (int n = 2; n <= 4; n++) {
            r.field(7, n, 0).due(ARGUMENT).find(HIGHEST[n - 2]);
            r.due(STATE).find(HIGHEST[n - 1]);
        }
    }

    private static void findDegreeOf0() {
        sentence("Promise 7", "0 .. HIGHEST (0 is not refused for d, and nothing is found then)");
        Run r = new Run().sampleFound();
        r.due(STATE).find(0);
        r.nothingFound();
        r.monomials(0).due(STATE).find(0);
        r.monomials(X, Y).due(STATE).find(0);
        r.due(1).find(1);
    }

    private static void findGeneratorsOfTheDegree() {
        sentence("Terms", "It is COMPLETE if all generators are of degree at most D");
        Run r = over(7, 1, 0);
        r.monomials(5 * X).due(STATE).find(4);
        r.due(5).find(5);
        r.due(5).find(6);
        r.monomials(30 * X).due(STATE).find(29);
        r.due(30).find(30);
        r.monomials(X, 3 * X).due(STATE).find(2);
        r.due(1).find(3);
        r.monomials(3 * X, X).due(STATE).find(2);
        r.due(1).find(3);
        r.field(7, 2, 0).monomials(X, Y, 12 * Y).due(STATE).find(11);
        r.due(1).find(12);
        r.clear();
        r.generator(1, X, 1).generator(2, Y, 1, 6 * Y, 1).due(STATE).find(5);
        r.due(6).find(6);
    }

    private static void findCommonMultiples() {
        sentence("Terms", "the least common multiple of their leading monomials is of degree at most D");
        Run r = over(7, 2, 0);
        r.monomials(2 * X, X + Y, 2 * Y).due(STATE).find(2);
        r.due(3).find(3);
        r.monomials(7 * X, 6 * Y, 6 * X + 4 * Y).due(STATE).find(11);
        r.due(40).find(12);
        r.monomials(3 * X, 11 * Y, 2 * X + 10 * Y).due(STATE).find(12);
    }

    private static void findAnyTwo() {
        sentence("Terms", "for any two of its polynomials");
        Run r = over(7, 2, 0);
        r.monomials(2 * X, X + Y, 3 * Y).due(STATE).find(3);
        r.due(4).find(4);
        r.monomials(2 * Y, X + Y, 3 * X).due(STATE).find(3);
        r.due(4).find(4);
        r.monomials(3 * Y, 2 * X + Y, 3 * X).due(STATE).find(4);
        r.due(7).find(5);
        r.field(7, 3, 0).monomials(2 * X, 2 * Y, 3 * Z, X + Z).due(STATE).find(3);
        r.due(8).find(4);
        r.field(7, 3, 1).monomials(3 * X, 2 * Y, 2 * Z, X + Z).due(STATE).find(3);
        r.due(8).find(4);
    }

    private static void findProducts() {
        sentence("Terms", "or is their product");
        Run r = over(7, 2, 0);
        r.monomials(5 * X, 8 * Y).due(STATE).find(7);
        r.due(40).find(8);
        r.field(7, 3, 0).monomials(3 * X, 3 * Y, 4 * Z).due(36).find(4);
        r.field(7, 4, 0).monomials(2 * X, 2 * Y, 2 * Z, 5 * W).due(40).find(5);
        r.field(7, 2, 0).monomials(3 * X, 3 * Y, 2 * X + 2 * Y).due(STATE).find(4);
        r.due(8).find(5);
    }

    private static void findSpaceBelowTheDegree() {
        sentence("Terms", "products of one that was had, of a degree below D, with a variable");
        Run r = over(7, 2, 0);
        r.generator(1, 2 * X, 1, 0, -1).generator(2, X + Y, 1, 0, -1).due(STATE).find(2);
        r.due(2).find(3);
        r.lefts(0, Y);
        r.clear();
        r.generator(1, 3 * X, 1, Y, 1).generator(2, 3 * X, 1, X, 1).due(3).find(3);
        r.lefts(0, Y, 2 * Y);
        r.field(7, 1, 0).generator(1, 30 * X, 1, 0, -1).generator(2, 29 * X, 1, 0, -1).due(1).find(30);
        r.due(1).times(0, 0, 0);
    }

    /** With no more than the first four steps down of these there would be more left over. */
    private static void findSpaceFallsAgainAndAgain() {
        sentence("Terms", "all polynomials that can be had from the generators (by many steps)");
        Run r = over(7, 1, 0);
        r.generator(1, 30 * X, 1, 0, -1).generator(2, 18 * X, 1, 0, -1).due(6).find(30);
        r.polynomial(0, 6 * X, 1, 0, 6);
        r.clear();
        r.generator(1, 21 * X, 1, 0, -1).generator(2, 13 * X, 1, 0, -1).due(1).find(21);
        r.polynomial(0, X, 1, 0, 6);
    }

    /** First x x comes with y y, which leads, too; at last it comes with x y, next below it. */
    private static void findNoOtherLeads() {
        sentence("Terms", "that has no other monomial that is a leading one of the space");
        Run r = over(7, 2, 0);
        r.generator(1, 2 * X, 1, 2 * Y, 1).generator(2, 2 * Y, 1, 0, -3).due(4).find(2);
        r.due(4).times(0, 2, 0);
        r.polynomial(1, 2 * X, 1, 0, 3);
        r.clear();
        r.generator(1, 2 * X, 1, 2 * Y, 1).generator(2, 2 * Y, 1, X, -1).due(4).find(2);
        r.due(6).times(0, 2, 2);
        r.polynomial(0, 4 * Y, 1, 2 * Y, 1);
        r.polynomial(1, X, 1, 2 * Y, 6);
        r.field(2, 2, 0).generator(1, 2 * X, 1, X + Y, 1).generator(2, X + Y, 1, Y, 1);
        r.generator(3, 2 * Y, 1, Y, 1).due(3).find(3);
        r.lefts(0, Y, X);
        r.due(1).times(0, 2, 1);
        r.polynomial(2, 2 * X, 1, Y, 1);
    }

    private static void findIncomplete() {
        sentence("Promise 7", "IllegalStateException: that basis is not complete; nothing is found then");
        Run r = new Run().sampleFound().generator(3, 5 * X, 1);
        r.due(STATE).find(4);
        r.nothingFound();
        r.sampleFound().monomials(2 * X, X + Y, 2 * Y).due(STATE).find(2);
        r.nothingFound();
        r.due(3).find(3);
        r.lefts(0, Y, X);
    }

    private static void findWith1() {
        sentence("Promise 7", "IllegalStateException: 1 is in the ideal; nothing is found then");
        int[][][] ideals = {
            {{0, 1}},
            {{X, 1}, {X, 1, 0, 1}},
            {{2 * X, 1, 0, 1}, {2 * X, 1, 0, 2}},
            {{X + Y, 1, 0, -1}, {X, 1}},
            {{X, 1}, {Y, 1}, {0, 3}},
            {{2 * X, 1}, {X + Y, 1, 0, -1}},
        };
        for (int[][] ideal : ideals) {
            Run r = new Run().sampleFound();
            r.clear();
            for (int g = 0; g < ideal.length; g++) {
                r.generator(g + 1, ideal[g]);
            }
            r.due(STATE).find(12);
            r.nothingFound();
        }
        Run r = new Run().generator(1, X, 1, 0, 1).generator(2, Y, 1, 0, 1);
        r.due(1).find(12);
        r.lefts(0);
    }

    private static void find40() {
        sentence("Promise 7", "more than 40 are left over (40 are not more)");
        Run r = over(2, 2, 0);
        r.monomials(5 * X, 8 * Y).due(40).find(12);
        r.monomials(4 * X, 10 * Y).due(40).find(12);
        r.field(2, 3, 0).monomials(2 * X, 4 * Y, 5 * Z).due(40).find(7);
        r.field(2, 4, 0).monomials(5 * X, 2 * Y, 2 * Z, 2 * W).due(40).find(5);
        r.field(2, 2, 1).monomials(7 * X, 6 * Y, 6 * X + 4 * Y).due(40).find(12);
        r.due(5 * X + 5 * Y).left(39);
        r.due(NONE).left(40);
    }

    private static void find41() {
        sentence("Promise 7", "IllegalStateException: more than 40 are left over; nothing is found then");
        Run r = new Run().sampleFound();
        r.monomials(7 * X, 6 * Y, 6 * X + 5 * Y).due(STATE).find(12);
        r.nothingFound();
        r.sampleFound().monomials(6 * X, 7 * Y).due(STATE).find(12);
        r.nothingFound();
        r.sampleFound().field(7, 3, 1).monomials(2 * X, 3 * Y, 7 * Z).due(STATE).find(7);
        r.nothingFound();
        r.sampleFound().field(7, 4, 1).monomials(5 * X, 3 * Y, 3 * Z, W).due(STATE).find(5);
        r.nothingFound();
        r.sampleFound().field(7, 4, 0).monomials(5 * X, 5 * Y, 5 * Z, 5 * W).due(STATE).find(5);
        r.nothingFound();
    }

    private static void findNoEnd() {
        sentence("Promise 7", "IllegalStateException: more than 40 are left over (there is no end of them)");
        for (int n = 1; n <= 4; n++) {
            Run r = new Run().sampleFound().field(7, n, 0);
            r.due(STATE).find(HIGHEST[n - 1]);
            r.nothingFound();
            for (int missing = 0; missing < n; missing++) {
                r = new Run().sampleFound().field(7, n, 0);
                int count = 0;
                for (int v = 0; v < n; v++) {
                    if (v != missing) {
                        count++;
                        r.generator(count, UNITS[v], 1);
                    }
                }
                r.due(STATE).find(HIGHEST[n - 1]);
                r.nothingFound();
            }
        }
        Run r = over(7, 2, 0);
        r.monomials(X + Y).due(STATE).find(12);
        r.monomials(12 * X, X + Y).due(STATE).find(12);
        r.nothingFound();
    }

    private static void findRefusedForD() {
        sentence("Promise 7", "What is found is told below until the next call that is not refused for d");
        Run r = new Run().sampleFound();
        for (int d : new int[] {-1, 13, 31, MIN, MAX}) {
            r.due(ARGUMENT).find(d);
            r.sampleIsTold();
        }
        r.field(7, 4, 0).due(ARGUMENT).find(6);
        r.sampleIsTold();
        r.due(ARGUMENT).find(12);
        r.sampleIsTold();
        r.due(STATE).find(5);
        r.nothingFound();
        r.due(ARGUMENT).find(6);
        r.nothingFound();
    }

    private static void findStaysWhenGeneratorsChange() {
        sentence("Promise 7", "also when generators change");
        Run r = new Run().sampleFound().coefficient(X, 1);
        r.sampleIsTold();
        r.due(3).join();
        r.sampleIsTold();
        r.generator(4, 0, 1);
        r.sampleIsTold();
        r.clear();
        r.sampleIsTold();
        r.generator(1, X, 1).generator(2, Y, 1);
        r.sampleIsTold();
        r.due(1).find(12);
        r.lefts(0);
    }

    private static void findStaysWhenTheFieldChanges() {
        sentence("Promise 7", "also when the field changes");
        int[][] fields = {{2, 1, 0}, {2, 2, 1}, {3, 3, 1}, {32003, 4, 0}, {32003, 1, 1}};
        Run r = new Run().sampleFound();
        for (int[] f : fields) {
            r.field(f[0], f[1], f[2]);
            r.sampleIsTold();
        }
        Run s = new Run().sampleFound().field(2, 1, 0).generator(1, 3 * X, 1, 0, 1);
        s.sampleIsTold();
        s.due(3).find(3);
        s.lefts(0, X, 2 * X);
        s.due(1).times(0, 2, 0);
        s.due(NONE).times(1, 0, 0);
        s.due(1).dictionary();
        s.polynomial(0, 3 * X, 1, 0, 1);
    }

    private static void findReplaces() {
        sentence("Promise 7", "until the next call (what it finds takes the place of it all)");
        Run r = over(7, 2, 0);
        r.monomials(5 * X, 8 * Y).due(40).find(12);
        r.monomials(X, Y).due(1).find(12);
        r.lefts(0);
        r.due(NONE).times(0, 1, 0);
        r.due(NONE).times(0, 0, 1);
        r.due(2).dictionary();
        r.polynomial(0, Y, 1);
        r.polynomial(1, X, 1);
        r.sampleFound().sampleIsTold();
        r.field(7, 1, 0).monomials(X).due(1).find(1);
        r.due(1).dictionary();
        r.due(NONE).entry(1, 0, 0);
        r.due(NONE).times(1, 0, 0);
    }

    private static void findBeginsAnew() {
        sentence("Promise 7", "What the generators leave over (and nothing of an earlier find)");
        Run r = over(7, 2, 0);
        r.monomials(0).due(STATE).find(12);
        r.sampleFound().sampleIsTold();
        r.monomials(3 * Y, X + 2 * Y, 2 * X + Y, 4 * X).due(7).find(12);
        r.sampleJoined().due(4).find(2);
        r.sampleIsTold();
        r.monomials(2 * X, X + Y, 2 * Y).due(STATE).find(2);
        r.sampleJoined().due(4).find(2);
        r.sampleIsTold();
        r.monomials(X, X + 12 * Y - Y).due(STATE).find(12);
        r.sampleFound().sampleIsTold();
        r.field(7, 1, 0).generator(1, 30 * X, 1, 0, -1).due(30).find(30);
        r.sampleFound().sampleIsTold();
    }

    private static void findChangesNoGenerators() {
        sentence("Promise 7", "find changes neither the generators nor the polynomial in hand");
        Run r = new Run().sampleJoined().coefficient(X, 5);
        r.due(4).find(12);
        r.due(STATE).find(0);
        r.due(ARGUMENT).find(13);
        r.due(4).find(2);
        r.due(5).hand(X);
        r.due(0).hand(0);
        r.due(4).find(12);
        r.sampleIsTold();
        r.due(3).join();
        r.due(STATE).find(12);
    }

    // Promise 8: left

    private static void leftOfNone() {
        sentence("Promise 8", "NONE if there is none such");
        Run r = new Run();
        int[] always = {-1, -40, MIN, 40, 41, 126, 1600, MAX};
        for (int k : always) {
            r.due(NONE).left(k);
        }
        r.due(NONE).left(0);
        r.sampleFound();
        for (int k : always) {
            r.due(NONE).left(k);
        }
        r.due(X + Y).left(3);
        r.due(NONE).left(4);
        r.monomials(X, Y).due(1).find(1);
        r.due(0).left(0);
        r.due(NONE).left(1);
        r.monomials(5 * X, 8 * Y).due(40).find(8);
        for (int k : always) {
            r.due(NONE).left(k);
        }
        r.due(0).left(0);
        r.due(4 * X + 7 * Y).left(39);
    }

    private static void leftBeyondHighest() {
        sentence("Terms", "the least first by the ORDER (beyond HIGHEST, too)");
        int[] both = {X + 4 * Y + Z, 4 * Y + 3 * Z, X + 3 * Y + 3 * Z, X + 4 * Y + 2 * Z, X + 4 * Y + 3 * Z};
        for (int order = 0; order <= 1; order++) {
            Run r = over(7, 4, order);
            r.monomials(2 * X, 5 * Y, 4 * Z, W).due(40).find(5);
            r.due(3 * Y + 3 * Z).left(31);
            r.due(order == 0 ? X + 2 * Y + 3 * Z : 4 * Y + 2 * Z).left(32);
            r.due(order == 0 ? 4 * Y + 2 * Z : X + 2 * Y + 3 * Z).left(33);
            r.due(X + 3 * Y + 2 * Z).left(34);
            for (int i = 0; i < both.length; i++) {
                r.due(both[i]).left(35 + i);
            }
            r.due(NONE).left(40);
        }
    }

    private static void leftByOrder() {
        sentence("Terms", "by degree; of one degree, ORDER 0: .. last exponent that differs is less; ORDER 1: .. first exponent that differs is greater");
        Run r = over(7, 4, 0);
        r.monomials(2 * X, 3 * Y, 2 * Z, 2 * W).due(24).find(5);
        int[] order0 = {0, W, Z, Y, X, Z + W, Y + W, X + W, Y + Z, X + Z, 2 * Y, X + Y};
        int[] order1 = {0, W, Z, Y, X, Z + W, Y + W, Y + Z, 2 * Y, X + W, X + Z, X + Y};
        for (int k = 0; k < order0.length; k++) {
            r.due(order0[k]).left(k);
        }
        r.field(7, 4, 1).monomials(2 * X, 3 * Y, 2 * Z, 2 * W).due(24).find(5);
        for (int k = 0; k < order1.length; k++) {
            r.due(order1[k]).left(k);
        }
    }

    /** y y - x z leads with y y by order 0, and with x z by order 1. */
    private static void leadByOrder() {
        sentence("Terms", "The LEADING monomial is the greatest");
        for (int order = 0; order <= 1; order++) {
            Run r = over(7, 3, order);
            r.generator(1, 2 * Y, 1, X + Z, -1).generator(2, 2 * X, 1).generator(3, 2 * Z, 1).due(8).find(7);
            if (order == 0) {
                r.lefts(0, Z, Y, X, Y + Z, X + Z, X + Y, X + Y + Z);
            } else {
                r.lefts(0, Z, Y, X, Y + Z, 2 * Y, X + Y, 3 * Y);
            }
        }
    }

    // Promise 9: times

    private static void timesOfNoVariable() {
        sentence("Promise 9", "NONE if there is none such (variable)");
        for (int n = 1; n <= 4; n++) {
            Run r = over(7, n, 0);
            for (int v = 0; v < n; v++) {
                r.generator(v + 1, UNITS[v], 1, 0, -1 - v);
            }
            r.due(1).find(1);
            for (int v = 0; v < 4; v++) {
                r.due(v < n ? v + 1 : NONE).times(v, 0, 0);
            }
            for (int v : new int[] {-1, -2, 4, 5, 255, 256, 1 << 30, MIN, MAX}) {
                r.due(NONE).times(v, 0, 0);
            }
        }
    }

    private static void timesOfNoMonomial() {
        sentence("Promise 9", "NONE if there is none such (left-over monomials k and j)");
        Run r = new Run().sampleFound();
        int[] none = {-1, 4, 5, 39, 40, 1600, 1 << 27, 1 << 30, MIN, MAX};
        for (int out : none) {
            for (int v = 0; v < 2; v++) {
                r.due(NONE).times(v, out, 0);
                r.due(NONE).times(v, 0, out);
                r.due(NONE).times(v, out, out);
            }
        }
        r.due(6).times(0, 3, 0);
        r.due(0).times(0, 3, 3);
        r.monomials(5 * X, 8 * Y).due(40).find(8);
        r.due(0).times(1, 39, 39);
        r.due(NONE).times(0, 40, 0);
        r.due(NONE).times(0, 0, 40);
        r.due(NONE).times(0, 39, 40);
        r.due(NONE).times(0, 39, -1);
    }

    private static void timesOfNothing() {
        sentence("Promise 9", "NONE if there is none such (nothing is found)");
        Run r = new Run();
        for (int v = -1; v <= 4; v++) {
            r.due(NONE).times(v, 0, 0);
        }
        r.sampleFound().due(STATE).find(1);
        for (int v = -1; v <= 4; v++) {
            r.due(NONE).times(v, 0, 0);
        }
    }

    private static void timesOf0() {
        sentence("Promise 9", "The coefficient of left-over monomial j (0 is one, and not NONE)");
        Run r = over(7, 1, 0);
        r.monomials(X).due(1).find(1);
        r.due(0).times(0, 0, 0);
        r.monomials(2 * X).due(2).find(2);
        int[][] want = {{0, 1}, {0, 0}};
        for (int k = 0; k < 2; k++) {
            for (int j = 0; j < 2; j++) {
                r.due(want[k][j]).times(0, k, j);
            }
        }
    }

    /** Left over in order 0 are, from 35 on, of degree 6 and 7: y z w^4, x z w^4, x y w^4, x y z w^3, x y z w^4. */
    private static void timesBeyondHighest() {
        sentence("Promise 9", "what variable v times left-over monomial k COMES TO (beyond HIGHEST)");
        Run r = over(7, 4, 0);
        r.generator(1, 2 * X, 1, 0, -2).generator(2, 2 * Y, 1, 0, -3);
        r.generator(3, 2 * Z, 1, 0, -5).generator(4, 5 * W, 1, 0, -6).due(40).find(5);
        r.due(Y + Z + 4 * W).left(35);
        r.due(X + Y + Z + 3 * W).left(38);
        r.due(X + Y + Z + 4 * W).left(39);
        r.due(2).times(0, 39, 35);
        r.due(3).times(1, 39, 36);
        r.due(5).times(2, 39, 37);
        r.due(1).times(3, 38, 39);
        r.due(X + Y + Z).left(19);
        for (int j = 0; j < 40; j++) {
            r.due(j == 19 ? 6 : 0).times(3, 39, j);
            r.due(j == 35 ? 2 : 0).times(0, 39, j);
        }
    }

    /** The greatest prime, and numbers as high as can be: (x + 1)^2 and such, with 32002 for -1. */
    private static void timesOfGreatNumbers() {
        sentence("Terms", "a prime up to 32003; told as 0 .. P - 1");
        Run r = over(32003, 1, 0);
        r.generator(1, 2 * X, 32002, X, 32002, 0, 32002).due(2).find(2);
        r.due(32002).times(0, 1, 0);
        r.due(32002).times(0, 1, 1);
        r.polynomial(0, 2 * X, 1, X, 1, 0, 1);
        r.clear();
        r.generator(1, 2 * X, 1, X, 1, 0, 1).due(2).find(2);
        r.due(32002).times(0, 1, 1);
        r.clear();
        r.generator(1, 2 * X, 2, X, 1, 0, -1).due(2).find(2);
        r.due(16001).times(0, 1, 1);
        r.due(16002).times(0, 1, 0);
        r.polynomial(0, 2 * X, 1, X, 16002, 0, 16001);
        r.field(2, 1, 0).generator(1, 2 * X, 1, X, 1, 0, 1).due(2).find(2);
        r.due(1).times(0, 1, 1);
        r.due(1).times(0, 1, 0);
        r.polynomial(0, 2 * X, 1, X, 1, 0, 1);
    }

    // Promise 10: dictionary

    private static void dictionaryOfNothing() {
        sentence("Promise 10", "How many polynomials (nothing is found)");
        Run r = new Run();
        r.due(0).dictionary();
        r.sampleJoined().due(0).dictionary();
        r.due(4).find(12);
        r.due(2).dictionary();
        r.due(STATE).find(0);
        r.due(0).dictionary();
    }

    private static void dictionaryOfOnePoint() {
        sentence("Promise 10", "How many polynomials (1 alone is left over)");
        for (int n = 1; n <= 4; n++) {
            Run r = over(7, n, 1);
            for (int v = 0; v < n; v++) {
                r.generator(v + 1, UNITS[v], 2, 0, -2 - 2 * v);
            }
            r.due(1).find(1);
            r.due(n).dictionary();
            for (int v = 0; v < n; v++) {
                r.polynomial(n - 1 - v, UNITS[v], 1, 0, 6 - v);
            }
            r.due(NONE).entry(n, 0, 0);
        }
    }

    private static void dictionaryOfMany() {
        sentence("Promise 10", "How many polynomials (more than there are variables)");
        Run r = over(7, 2, 0);
        r.monomials(2 * X, X + Y, 2 * Y).due(3).find(3);
        r.due(3).dictionary();
        r.field(7, 3, 1).monomials(2 * X, X + Y, X + Z, 2 * Y, Y + Z, 2 * Z).due(4).find(3);
        r.due(6).dictionary();
        r.polynomial(0, 2 * Z, 1);
        r.polynomial(1, Y + Z, 1);
        r.polynomial(2, 2 * Y, 1);
        r.polynomial(3, X + Z, 1);
        r.polynomial(4, X + Y, 1);
        r.polynomial(5, 2 * X, 1);
        r.due(NONE).entry(6, 0, 0);
    }

    // Promise 11: entry

    private static void entryOfNoPolynomial() {
        sentence("Promise 11", "NONE if there is none such (polynomial)");
        Run r = new Run();
        int[] none = {-1, -2, 2, 3, 40, 159, 160, 161, 1 << 26, 1 << 30, MIN, MAX};
        r.sampleFound();
        for (int k : none) {
            for (int what = 0; what <= 1; what++) {
                r.due(NONE).entry(k, 0, what);
                r.due(NONE).entry(k, 1, what);
            }
        }
        r.due(2 * Y).entry(0, 0, 0);
        r.due(2 * X).entry(1, 0, 0);
    }

    private static void entryOfNoTerm() {
        sentence("Promise 11", "NONE if there is none such (term)");
        Run r = new Run().sampleFound();
        for (int j : new int[] {-1, -2, 2, 3, 39, 40, 41, 1600, MIN, MAX}) {
            for (int what = 0; what <= 1; what++) {
                r.due(NONE).entry(0, j, what);
                r.due(NONE).entry(1, j, what);
            }
        }
        r.monomials(2 * X, 2 * Y).due(4).find(2);
        r.polynomial(0, 2 * Y, 1);
        r.polynomial(1, 2 * X, 1);
        r.due(NONE).entry(0, 4, 1);
    }

    private static void entryOfAllTerms() {
        sentence("Promise 11", "of its term j (the greatest is 0)");
        Run r = over(32003, 1, 0);
        for (int e = 0; e <= 30; e++) {
            r.coefficient(e * X, e == 30 ? 1 : e + 5);
        }
        r.due(1).join();
        r.due(30).find(30);
        r.due(1).dictionary();
        for (int j = 0; j <= 30; j++) {
            r.due((30 - j) * X).entry(0, j, 0);
            r.due(j == 0 ? 1 : 35 - j).entry(0, j, 1);
        }
        r.due(NONE).entry(0, 31, 0);
        r.due(NONE).entry(0, 31, 1);
    }

    private static void entryOfAnotherWhat() {
        sentence("Promise 11", "or for another what");
        Run r = new Run().sampleFound();
        for (int what : new int[] {-1, -2, 2, 3, 255, 256, MIN, MAX}) {
            for (int k = 0; k <= 1; k++) {
                r.due(NONE).entry(k, 0, what);
                r.due(NONE).entry(k, 1, what);
                r.due(NONE).entry(k, 2, what);
            }
            r.due(NONE).entry(-1, 0, what);
            r.due(NONE).entry(2, 0, what);
        }
        r.due(2 * Y).entry(0, 0, 0);
        r.due(1).entry(0, 0, 1);
        r.due(0).entry(0, 1, 0);
        r.due(5).entry(0, 1, 1);
    }

    private static void entryOfNothing() {
        sentence("Promise 11", "NONE if there is none such (nothing is found)");
        Run r = new Run();
        for (int what = -1; what <= 2; what++) {
            r.due(NONE).entry(0, 0, what);
            r.due(NONE).entry(0, 1, what);
        }
        r.sampleFound().due(STATE).find(1);
        for (int what = -1; what <= 2; what++) {
            r.due(NONE).entry(0, 0, what);
            r.due(NONE).entry(0, 1, what);
            r.due(NONE).entry(1, 0, what);
        }
    }

    private static void entryWhateverTheDegrees() {
        sentence("Terms", "that one is greater whose first exponent that differs is greater, whatever the degrees");
        Run r = over(3, 2, 0);
        r.generator(1, 5 * X, 1, Y, -1).generator(2, 8 * Y, 1, X, 1).due(40).find(8);
        r.due(2).dictionary();
        r.polynomial(0, 40 * Y, 1, Y, 1);
        r.polynomial(1, X, 1, 8 * Y, 1);
        // x is - y^8 - 1 here, so that y is - (y^8 + 1)^5, modulo 3.
        r.clear();
        r.generator(1, 5 * X, 1, Y, -1).generator(2, 8 * Y, 1, X, 1, 0, 1).due(40).find(8);
        r.polynomial(0, 40 * Y, 1, 32 * Y, 2, 24 * Y, 1, 16 * Y, 1, 8 * Y, 2, Y, 1, 0, 1);
        r.polynomial(1, X, 1, 8 * Y, 1, 0, 1);
        r.field(7, 4, 1).generator(1, 2 * X, 1, Y, -1).generator(2, 2 * Y, 1, Z, -1);
        r.generator(3, 2 * Z, 1, W, -1).generator(4, 5 * W, 1, X, -1).due(40).find(5);
        r.due(4).dictionary();
        r.polynomial(0, 40 * W, 1, W, 6);
        r.polynomial(1, Z, 1, 20 * W, 6);
        r.polynomial(2, Y, 1, 10 * W, 6);
        r.polynomial(3, X, 1, 5 * W, 6);
    }

    private static void entryWithHighestX() {
        sentence("Promise 11", "the monomial (an exponent of x as high as can be)");
        Run r = over(7, 1, 0);
        r.monomials(30 * X).due(30).find(30);
        r.due(30 * X).entry(0, 0, 0);
        r.due(29 * X).left(29);
        r.field(7, 2, 0).generator(1, Y, 1, 12 * X, 6).generator(2, 12 * X, 1).due(12).find(12);
        r.polynomial(0, Y, 1);
        r.polynomial(1, 12 * X, 1);
    }

    // What it is

    private static void the512thCall() {
        sentence("What it is", "at most 512 calls after it has been made");
        Run r = over(2, 4, 1);
        r.monomials(2 * X, 2 * Y, 2 * Z, 5 * W);
        while (r.calls < 509) {
            r.due(40).find(5);
        }
        r.due(X + Y + Z + 4 * W).left(39);
        r.due(4).dictionary();
        r.due(2 * X).entry(3, 0, 0);
        compare("the number of calls", 512, r.calls);
    }

    private static void promises1To6() {
        newPrime();
        newVariables();
        newOrder();
        newGenerators();
        newHand();
        newFound();
        fieldPrimeTooSmall();
        fieldPrimeTooLarge();
        fieldNoPrime();
        fieldVariables();
        fieldOrder();
        fieldGenerators();
        fieldHand();
        fieldRefused();
        fieldRefusedOrder();
        coefficientModulo();
        coefficientReplaces();
        coefficientMonomials();
        coefficientWraps();
        coefficientRefused();
        handOfNone();
        handOfEdges();
        handOfShrunkField();
        joinCounts();
        joinEmptiesTheHand();
        joinOf0();
        joinWhenFull();
        joinWhenFullOf0();
        joinRefused();
        joinKeepsFormerGenerators();
        clearOfNothing();
        clearOfFull();
        clearOfHand();
        clearKeepsTheField();
    }

    private static void promise7() {
        findDegreeTooSmall();
        findDegreeTooLarge();
        findDegreeOf0();
        findGeneratorsOfTheDegree();
        findCommonMultiples();
        findAnyTwo();
        findProducts();
        findSpaceBelowTheDegree();
        findSpaceFallsAgainAndAgain();
        findNoOtherLeads();
        findIncomplete();
        findWith1();
        find40();
        find41();
        findNoEnd();
        findRefusedForD();
        findStaysWhenGeneratorsChange();
        findStaysWhenTheFieldChanges();
        findReplaces();
        findBeginsAnew();
        findChangesNoGenerators();
    }

    private static void promises8To11() {
        leftOfNone();
        leftBeyondHighest();
        leftByOrder();
        leadByOrder();
        timesOfNoVariable();
        timesOfNoMonomial();
        timesOfNothing();
        timesOf0();
        timesBeyondHighest();
        timesOfGreatNumbers();
        dictionaryOfNothing();
        dictionaryOfOnePoint();
        dictionaryOfMany();
        entryOfNoPolynomial();
        entryOfNoTerm();
        entryOfAllTerms();
        entryOfAnotherWhat();
        entryOfNothing();
        entryWhateverTheDegrees();
        entryWithHighestX();
    }

    public static void main(String[] args) {
        promises1To6();
        promise7();
        promises8To11();
        the512thCall();
        System.out.println(sentences + " sentences, " + asked + " answers, " + wrong + " of them wrong");
        if (wrong != 0) {
            System.exit(1);
        }
    }
}
