import java.util.Arrays;

/** For each promise of the document: ordinary inputs, the edges that it names, and wrong inputs. */
public final class PromiseTest {
    private static final int X = 1 << 24;
    private static final int Y = 1 << 16;
    private static final int Z = 1 << 8;
    private static final int W = 1;
    private static final int NONE = RemnantDictionary.NONE;
    private static final int ILLEGAL_ARGUMENT = -1001;
    private static final int ILLEGAL_STATE = -1002;

    private static int asked = 0;
    private static int wrong = 0;

    private static void due(String call, long want, long got) {
        asked++;
        if (got != want) {
            wrong++;
            System.out.println(call + " answered " + got + ", due is " + want);
        }
    }

    private static int field(RemnantDictionary r, int p, int n, int order) {
        try {
            r.field(p, n, order);
            return 0;
        } catch (IllegalArgumentException e) {
            return ILLEGAL_ARGUMENT;
        }
    }

    private static int coefficient(RemnantDictionary r, int e, int c) {
        try {
            r.coefficient(e, c);
            return 0;
        } catch (IllegalArgumentException x) {
            return ILLEGAL_ARGUMENT;
        }
    }

    private static int join(RemnantDictionary r) {
        try {
            return r.join();
        } catch (IllegalArgumentException e) {
            return ILLEGAL_ARGUMENT;
        } catch (IllegalStateException e) {
            return ILLEGAL_STATE;
        }
    }

    private static int find(RemnantDictionary r, int d) {
        try {
            return r.find(d);
        } catch (IllegalArgumentException e) {
            return ILLEGAL_ARGUMENT;
        } catch (IllegalStateException e) {
            return ILLEGAL_STATE;
        }
    }

    /** Joins the polynomial with these monomials and coefficients, told in turn. */
    private static int joined(RemnantDictionary r, int... terms) {
        for (int i = 0; i + 1 < terms.length; i += 2) {
            r.coefficient(terms[i], terms[i + 1]);
        }
        return join(r);
    }

    private static RemnantDictionary over(int p, int n, int order) {
        RemnantDictionary r = new RemnantDictionary();
        r.field(p, n, order);
        return r;
    }

    private static int[] leftOf(RemnantDictionary r) {
        int count = 0;
        while (r.left(count) != NONE) {
            count++;
        }
        int[] all = new int[count];
        for (int k = 0; k < count; k++) {
            all[k] = r.left(k);
        }
        return all;
    }

    private static void dueLeft(String what, RemnantDictionary r, int... want) {
        int[] got = leftOf(r);
        asked++;
        if (!Arrays.equals(got, want)) {
            wrong++;
            System.out.println(what + ": left over are " + Arrays.toString(got) + ", due are " + Arrays.toString(want));
        }
    }

    /** The terms of polynomial k, told as for joined(). */
    private static void duePolynomial(String what, RemnantDictionary r, int k, int... want) {
        int count = 0;
        while (r.entry(k, count, 0) != NONE) {
            count++;
        }
        int[] got = new int[2 * count];
        for (int j = 0; j < count; j++) {
            got[2 * j] = r.entry(k, j, 0);
            got[2 * j + 1] = r.entry(k, j, 1);
        }
        asked++;
        if (!Arrays.equals(got, want)) {
            wrong++;
            System.out.println(what + ": polynomial " + k + " is " + Arrays.toString(got) + ", due is " + Arrays.toString(want));
        }
        due(what + ": the monomial behind the last term", NONE, r.entry(k, count, 0));
        due(what + ": the coefficient behind the last term", NONE, r.entry(k, count, 1));
    }

    private static void dueNothingFound(String what, RemnantDictionary r) {
        due(what + ": left(0)", NONE, r.left(0));
        due(what + ": times(0, 0, 0)", NONE, r.times(0, 0, 0));
        due(what + ": dictionary()", 0, r.dictionary());
        due(what + ": entry(0, 0, 0)", NONE, r.entry(0, 0, 0));
        due(what + ": entry(0, 0, 1)", NONE, r.entry(0, 0, 1));
    }

    private static void newObject() {
        RemnantDictionary r = new RemnantDictionary();
        due("NONE", -1, RemnantDictionary.NONE);
        dueNothingFound("new", r);
        due("new: hand(0)", 0, r.hand(0));
        due("new: join() of 0", ILLEGAL_ARGUMENT, join(r));
        due("new: find(12) without generators", ILLEGAL_STATE, find(r, 12));
        due("new: find(13)", ILLEGAL_ARGUMENT, find(r, 13));
        due("new: two variables", 0, coefficient(r, 5 * X + 7 * Y, -1));
        due("new: no third one", ILLEGAL_ARGUMENT, coefficient(r, Z, 1));
        due("new: modulo 7", 6, r.hand(5 * X + 7 * Y));
        r.clear();
        due("new: first generator", 1, joined(r, 2 * X, 1));
        due("new: second generator", 2, joined(r, 2 * Y, 1));
        due("new: find(2)", 4, find(r, 2));
        dueLeft("new: order 0", r, 0, Y, X, X + Y);
    }

    private static void fields() {
        RemnantDictionary r = new RemnantDictionary();
        int[] primes = {2, 3, 5, 7, 11, 181, 257, 31991, 32003};
        for (int p : primes) {
            due("field(" + p + ", 1, 0)", 0, field(r, p, 1, 0));
            r.coefficient(0, -1);
            due("-1 modulo " + p, p - 1, r.hand(0));
        }
        int[] others = {Integer.MIN_VALUE, -7, -2, -1, 0, 1, 4, 6, 9, 121, 169, 31329, 32001, 32002, 32004, 32009, 46337, 65537, Integer.MAX_VALUE};
        for (int p : others) {
            due("field(" + p + ", 1, 0)", ILLEGAL_ARGUMENT, field(r, p, 1, 0));
        }
        everyPrime();
        int[] wrongNs = {Integer.MIN_VALUE, -1, 0, 5, 6, Integer.MAX_VALUE};
        for (int n : wrongNs) {
            due("field(7, " + n + ", 0)", ILLEGAL_ARGUMENT, field(r, 7, n, 0));
        }
        int[] wrongOrders = {Integer.MIN_VALUE, -1, 2, 3, Integer.MAX_VALUE};
        for (int order : wrongOrders) {
            due("field(7, 2, " + order + ")", ILLEGAL_ARGUMENT, field(r, 7, 2, order));
        }
        fieldStartsAnew();
    }

    private static void everyPrime() {
        boolean[] composite = new boolean[32101];
        RemnantDictionary r = null;
        for (int p = 2; p <= 32100; p++) {
            for (int multiple = 2 * p; multiple <= 32100; multiple += p) {
                composite[multiple] = true;
            }
            if (p % 500 == 2) {
                r = new RemnantDictionary();
            }
            due("field(" + p + ", 1, 0)", composite[p] || p > 32003 ? ILLEGAL_ARGUMENT : 0, field(r, p, 1, 0));
        }
    }

    private static void fieldStartsAnew() {
        RemnantDictionary r = over(11, 2, 0);
        joined(r, X, 1);
        r.coefficient(Y, 10);
        due("refused field", ILLEGAL_ARGUMENT, field(r, 12, 3, 1));
        due("hand after a refused field", 10, r.hand(Y));
        due("two variables after a refused field", ILLEGAL_ARGUMENT, coefficient(r, Z, 1));
        due("generators after a refused field", 2, join(r));
        r.coefficient(Y, 10);
        due("field", 0, field(r, 11, 2, 0));
        due("hand after field", 0, r.hand(Y));
        due("generators after field", 1, joined(r, X, 1));
        for (int order = 0; order <= 1; order++) {
            r.field(5, 3, order);
            joined(r, 2 * X, 1);
            joined(r, 2 * Y, 1);
            joined(r, 2 * Z, 1);
            due("find(2) of three squares", 8, find(r, 2));
            if (order == 0) {
                dueLeft("order 0", r, 0, Z, Y, X, Y + Z, X + Z, X + Y, X + Y + Z);
            } else {
                dueLeft("order 1", r, 0, Z, Y, X, Y + Z, X + Z, X + Y, X + Y + Z);
            }
        }
        ordersDiffer();
    }

    /** y y and x z, of one degree: by order 0 y y is greater, by order 1 x z. */
    private static void ordersDiffer() {
        for (int order = 0; order <= 1; order++) {
            RemnantDictionary r = over(7, 3, order);
            joined(r, 2 * Y, 1, X + Z, -1);
            joined(r, 2 * X, 1);
            joined(r, 2 * Z, 1);
            due("find(7) in order " + order, 8, find(r, 7));
            if (order == 0) {
                dueLeft("y y leads", r, 0, Z, Y, X, Y + Z, X + Z, X + Y, X + Y + Z);
            } else {
                dueLeft("x z leads", r, 0, Z, Y, X, Y + Z, 2 * Y, X + Y, 3 * Y);
            }
        }
    }

    private static void coefficients() {
        int[] highest = {30, 12, 7, 5};
        int[] units = {X, Y, Z, W};
        for (int n = 1; n <= 4; n++) {
            RemnantDictionary r = over(32003, n, n % 2);
            for (int v = 0; v < 4; v++) {
                int top = highest[n - 1];
                due("the highest power, n " + n + ", v " + v, v < n ? 0 : ILLEGAL_ARGUMENT, coefficient(r, top * units[v], 1));
                due("one higher, n " + n + ", v " + v, ILLEGAL_ARGUMENT, coefficient(r, (top + 1) * units[v], 1));
                due("a mixed one of the highest degree, n " + n + ", v " + v, v < n ? 0 : ILLEGAL_ARGUMENT, coefficient(r, (top - 1) * X + units[v], 1));
                due("a mixed one over it, n " + n + ", v " + v, ILLEGAL_ARGUMENT, coefficient(r, top * X + units[v], 1));
            }
            int[] none = {-1, Integer.MIN_VALUE, Integer.MAX_VALUE, 127 * X, -X, 255 * Y, 255 * Z, 255};
            for (int e : none) {
                due("coefficient(" + e + ", 1)", ILLEGAL_ARGUMENT, coefficient(r, e, 1));
                due("hand(" + e + ")", 0, r.hand(e));
            }
        }
        RemnantDictionary r = over(5, 2, 0);
        int[][] cases = {{0, 0}, {4, 4}, {5, 0}, {-1, 4}, {-5, 0}, {7, 2}, {Integer.MAX_VALUE, 2}, {Integer.MIN_VALUE, 2}};
        for (int[] pair : cases) {
            r.coefficient(X + Y, pair[0]);
            due(pair[0] + " modulo 5", pair[1], r.hand(X + Y));
        }
    }

    private static void hands() {
        RemnantDictionary r = over(13, 4, 1);
        r.coefficient(X + Y + Z + W, 3);
        r.coefficient(0, 12);
        r.coefficient(5 * W, 20);
        due("hand(xyzw)", 3, r.hand(X + Y + Z + W));
        due("hand(1)", 12, r.hand(0));
        due("hand(w^5)", 7, r.hand(5 * W));
        due("hand(w^6)", 0, r.hand(6 * W));
        due("hand(x)", 0, r.hand(X));
        r.coefficient(0, 1);
        due("set again", 1, r.hand(0));
        coefficient(r, 6 * W, 5);
        due("after a refused one", 7, r.hand(5 * W));
        r.coefficient(0, 13);
        due("set to 0", 0, r.hand(0));
    }

    private static void joins() {
        RemnantDictionary r = over(3, 1, 0);
        due("join() of 0", ILLEGAL_ARGUMENT, join(r));
        r.coefficient(X, 3);
        due("join() of 3 x modulo 3", ILLEGAL_ARGUMENT, join(r));
        for (int g = 1; g <= 8; g++) {
            due("generator " + g, g, joined(r, X, 1, 0, g));
            due("hand after join", 0, r.hand(X));
        }
        due("a ninth that is 0", ILLEGAL_ARGUMENT, join(r));
        r.coefficient(30 * X, 2);
        due("a ninth", ILLEGAL_STATE, join(r));
        due("hand after a refused join", 2, r.hand(30 * X));
        r.clear();
        due("the last monomial alone", 1, joined(r, 30 * X, 1));
        due("the first monomial alone", 2, joined(r, 0, 2));
    }

    private static void clears() {
        RemnantDictionary r = over(7, 2, 1);
        joined(r, 2 * X, 1);
        joined(r, Y, 1);
        due("find(2)", 2, find(r, 2));
        r.coefficient(X, 4);
        r.clear();
        due("hand after clear", 0, r.hand(X));
        dueLeft("clear keeps what is found", r, 0, X);
        due("the same order after clear", ILLEGAL_ARGUMENT, coefficient(r, Z, 1));
        due("generators after clear", 1, joined(r, X, 9));
        due("x alone leaves too much", ILLEGAL_STATE, find(r, 12));
        dueNothingFound("after that", r);
        joined(r, Y, 1);
        due("modulo 7 after clear", 1, find(r, 1));
        duePolynomial("x", r, 1, X, 1);
    }

    private static void findsAndTheirDegrees() {
        RemnantDictionary r = over(7, 2, 0);
        joined(r, 2 * X, 1);
        joined(r, X + Y, 1, 0, -1);
        int[] refused = {-1, 13, Integer.MIN_VALUE, Integer.MAX_VALUE};
        for (int d : refused) {
            due("find(" + d + ")", ILLEGAL_ARGUMENT, find(r, d));
        }
        due("generators above 1", ILLEGAL_STATE, find(r, 1));
        due("x x and x y need degree 3", ILLEGAL_STATE, find(r, 2));
        due("1 is in the ideal", ILLEGAL_STATE, find(r, 3));

        r.field(7, 2, 0);
        joined(r, 2 * X, 1);
        joined(r, 3 * Y, 1);
        due("a generator above 2", ILLEGAL_STATE, find(r, 2));
        due("coprime leaders need no more", 6, find(r, 3));
        due("find(0)", ILLEGAL_STATE, find(r, 0));
        due("find(12)", 6, find(r, 12));

        r.field(7, 2, 0);
        joined(r, 2 * X, 1);
        joined(r, X + Y, 1);
        joined(r, 2 * Y, 1);
        due("common multiples of degree 3 are above 2", ILLEGAL_STATE, find(r, 2));
        due("and are not above 3", 3, find(r, 3));

        r.field(7, 2, 0);
        joined(r, 0, 3);
        due("a constant", ILLEGAL_STATE, find(r, 0));
        due("a constant, higher", ILLEGAL_STATE, find(r, 12));

        r.field(7, 4, 0);
        due("no generators", ILLEGAL_STATE, find(r, 5));
        for (int unit : new int[] {X, Y, Z, W}) {
            joined(r, unit, 1, 0, 1);
        }
        due("find(0) below linear generators", ILLEGAL_STATE, find(r, 0));
        due("find(1) of a point", 1, find(r, 1));
        due("find(6) of four variables", ILLEGAL_ARGUMENT, find(r, 6));
    }

    /** A space that falls in degree: sums of higher ones give lower ones, which are taken up again. */
    private static void findsThatFall() {
        RemnantDictionary r = over(7, 2, 0);
        joined(r, 3 * X, 1, Y, 1);
        joined(r, 3 * X, 1, X, 1);
        due("x x x + y and x x x + x are above 2", ILLEGAL_STATE, find(r, 2));
        due("at 3 x - y is had, and its products", 3, find(r, 3));
        due("at 4", 3, find(r, 4));
        duePolynomial("y y y + y", r, 0, 3 * Y, 1, Y, 1);
        duePolynomial("x - y", r, 1, X, 1, Y, 6);
    }

    /** What is had above d does not count, though HIGHEST leaves room for it. */
    private static void findsOnlyUpToTheDegree() {
        RemnantDictionary r = over(7, 2, 0);
        joined(r, X + Y, 1, 0, -1);
        joined(r, 2 * X, 1, Y, -1);
        due("x x and x y at 2", ILLEGAL_STATE, find(r, 2));
        due("y y - x comes at 3", 3, find(r, 3));
        dueLeft("three", r, 0, Y, X);
        duePolynomial("y y y - 1", r, 0, 3 * Y, 1, 0, 6);
        duePolynomial("x - y y", r, 1, X, 1, 2 * Y, 6);
        r.field(7, 2, 0);
        joined(r, 2 * X, 1, 0, -1);
        joined(r, X + Y, 1, 0, -1);
        due("x - y is not had at 2", ILLEGAL_STATE, find(r, 2));
        due("it is at 3", 2, find(r, 3));
        dueLeft("two", r, 0, Y);
    }

    private static void howManyAreLeft() {
        RemnantDictionary r = over(2, 2, 0);
        joined(r, 5 * X, 1);
        joined(r, 8 * Y, 1);
        due("5 times 8 are 40", 40, find(r, 8));
        due("the last of 40", 4 * X + 7 * Y, r.left(39));
        due("behind it", NONE, r.left(40));
        r.clear();
        joined(r, 4 * X, 1);
        joined(r, 11 * Y, 1);
        due("44 are too many", ILLEGAL_STATE, find(r, 11));
        dueNothingFound("after 44", r);
        joined(r, 3 * X + 7 * Y, 1);
        due("4 fewer, common multiples up to 14", ILLEGAL_STATE, find(r, 12));
        r.clear();
        joined(r, 4 * X, 1);
        joined(r, 11 * Y, 1);
        joined(r, X + 10 * Y, 1);
        due("common multiples of degree 14", ILLEGAL_STATE, find(r, 12));
        r.field(7, 3, 0);
        joined(r, 3 * X, 1);
        joined(r, 2 * Y, 1);
        joined(r, 7 * Z, 1);
        due("42 are too many", ILLEGAL_STATE, find(r, 7));
        joined(r, 2 * X + Y + 2 * Z, 1);
        due("fewer, common multiples up to 10", ILLEGAL_STATE, find(r, 7));
        r.field(7, 2, 1);
        joined(r, 7 * X, 1);
        joined(r, 6 * Y, 1);
        joined(r, 6 * X + 5 * Y, 1);
        due("41 are too many", ILLEGAL_STATE, find(r, 12));
        joined(r, 6 * X + 4 * Y, 1);
        due("40 are not", 40, find(r, 12));
        r.field(2, 4, 0);
        joined(r, 2 * X, 1);
        joined(r, 2 * Y, 1);
        joined(r, 2 * Z, 1);
        joined(r, 5 * W, 1);
        due("40 of four variables", 40, find(r, 5));
        due("one of degree 7, above the highest", X + Y + Z + 4 * W, r.left(39));
        due("w times it", 0, r.times(3, 39, 39));
    }

    private static void whatIsFoundStays() {
        RemnantDictionary r = over(7, 2, 0);
        joined(r, 2 * X, 1, Y, -3);
        joined(r, 2 * Y, 1, 0, -2);
        due("find(4)", 4, find(r, 4));
        for (int way = 0; way < 6; way++) {
            if (way == 1) {
                joined(r, X, 1);
            } else if (way == 2) {
                find(r, 13);
            } else if (way == 3) {
                r.clear();
            } else if (way == 4) {
                r.field(2, 4, 1);
            } else if (way == 5) {
                field(r, 4, 4, 1);
            }
            dueLeft("way " + way, r, 0, Y, X, X + Y);
            due("times in way " + way, 3, r.times(0, 2, 1));
            due("times of z in way " + way, NONE, r.times(2, 0, 0));
            due("dictionary in way " + way, 2, r.dictionary());
            duePolynomial("way " + way, r, 0, 2 * Y, 1, 0, 5);
            duePolynomial("way " + way, r, 1, 2 * X, 1, Y, 4);
        }
        due("find(6) of four variables", ILLEGAL_ARGUMENT, find(r, 6));
        due("still there", 4, leftOf(r).length);
        due("find(5) without generators", ILLEGAL_STATE, find(r, 5));
        dueNothingFound("after a find that was not refused for d", r);
    }

    private static void lefts() {
        RemnantDictionary r = over(7, 1, 0);
        joined(r, 30 * X, 1, 0, 1);
        due("find(29)", ILLEGAL_STATE, find(r, 29));
        due("find(30)", 30, find(r, 30));
        for (int k = 0; k < 30; k++) {
            due("left(" + k + ")", k * X, r.left(k));
        }
        int[] none = {-1, 30, 31, 40, 1000, Integer.MIN_VALUE, Integer.MAX_VALUE};
        for (int k : none) {
            due("left(" + k + ")", NONE, r.left(k));
        }
        r.field(7, 2, 1);
        joined(r, 3 * X, 1);
        joined(r, 12 * Y, 1);
        due("find(12) of 36", 36, find(r, 12));
        due("degree 13", 2 * X + 11 * Y, r.left(35));
        due("degree 12, the greater", 2 * X + 10 * Y, r.left(34));
        due("degree 12, the lesser", X + 11 * Y, r.left(33));
    }

    private static void timesOfPairs() {
        RemnantDictionary r = over(7, 2, 0);
        joined(r, 2 * X, 1, Y, -1, 0, 2);
        joined(r, 3 * Y, 1, X, -1);
        due("find(3)", 6, find(r, 3));
        int[] left = {0, Y, X, 2 * Y, X + Y, X + 2 * Y};
        dueLeft("left", r, left);
        int[][] byX = {{0, 0, 1, 0, 0, 0}, {0, 0, 0, 0, 1, 0}, {5, 1, 0, 0, 0, 0},
            {0, 0, 0, 0, 0, 1}, {0, 5, 0, 1, 0, 0}, {0, 0, 1, 5, 0, 0}};
        int[][] byY = {{0, 1, 0, 0, 0, 0}, {0, 0, 0, 1, 0, 0}, {0, 0, 0, 0, 1, 0},
            {0, 0, 1, 0, 0, 0}, {0, 0, 0, 0, 0, 1}, {5, 1, 0, 0, 0, 0}};
        for (int k = 0; k < 6; k++) {
            for (int j = 0; j < 6; j++) {
                due("times(0, " + k + ", " + j + ")", byX[k][j], r.times(0, k, j));
                due("times(1, " + k + ", " + j + ")", byY[k][j], r.times(1, k, j));
            }
        }
        int[] none = {-1, 6, 7, 40, 1600, Integer.MIN_VALUE, Integer.MAX_VALUE};
        for (int out : none) {
            due("times(0, " + out + ", 0)", NONE, r.times(0, out, 0));
            due("times(0, 0, " + out + ")", NONE, r.times(0, 0, out));
            due("times(" + out + ", 0, 0)", NONE, r.times(out, 0, 0));
        }
        due("there is no third variable", NONE, r.times(2, 0, 0));
        due("there is no fourth variable", NONE, r.times(3, 0, 0));
    }

    private static void dictionaries() {
        RemnantDictionary r = over(7, 3, 0);
        joined(r, X, 1, Y, 1);
        joined(r, 2 * Y, 1, Z, 1);
        joined(r, 2 * Z, 1, 0, -1);
        due("find(2)", 4, find(r, 2));
        due("three polynomials", 3, r.dictionary());
        duePolynomial("z z - 1", r, 0, 2 * Z, 1, 0, 6);
        duePolynomial("y y + z", r, 1, 2 * Y, 1, Z, 1);
        duePolynomial("x + y", r, 2, X, 1, Y, 1);

        r.field(5, 2, 0);
        joined(r, 2 * X, 1);
        joined(r, X + Y, 1);
        joined(r, 2 * Y, 1);
        due("find(3)", 3, find(r, 3));
        due("more polynomials than variables", 3, r.dictionary());
        duePolynomial("y y", r, 0, 2 * Y, 1);
        duePolynomial("x y", r, 1, X + Y, 1);
        duePolynomial("x x", r, 2, 2 * X, 1);

        r.field(32003, 1, 1);
        joined(r, 2 * X, 2, 0, 2);
        due("find(2) of 2 x x + 2", 2, find(r, 2));
        duePolynomial("x x + 1", r, 0, 2 * X, 1, 0, 1);

        r.field(3, 2, 0);
        joined(r, 5 * X, 1, Y, -1);
        joined(r, 8 * Y, 1, X, 1);
        due("a power of y far above the highest", 40, find(r, 8));
        due("two", 2, r.dictionary());
        duePolynomial("y to 40", r, 0, 40 * Y, 1, Y, 1);
        duePolynomial("x", r, 1, X, 1, 8 * Y, 1);
    }

    private static void entries() {
        RemnantDictionary r = over(11, 2, 1);
        joined(r, 2 * X, 1, X, 3, Y, 4, 0, 5);
        joined(r, 2 * Y, 1, X, 6, 0, 8);
        due("find(4)", 4, find(r, 4));
        int[] none = {-1, 2, 3, 160, Integer.MIN_VALUE, Integer.MAX_VALUE};
        due("dictionary()", 2, r.dictionary());
        for (int out : none) {
            due("entry(" + out + ", 0, 0)", NONE, r.entry(out, 0, 0));
            due("entry(" + out + ", 0, 1)", NONE, r.entry(out, 0, 1));
            due("entry(0, 0, " + out + ")", NONE, r.entry(0, 0, out));
            due("entry(0, 1, " + out + ")", NONE, r.entry(0, 1, out));
            due("entry(0, " + (out < 0 ? out : Math.max(out, 5)) + ", 0)", NONE, r.entry(0, out < 0 ? out : Math.max(out, 5), 0));
            due("entry(0, " + (out < 0 ? out : Math.max(out, 5)) + ", 1)", NONE, r.entry(0, out < 0 ? out : Math.max(out, 5), 1));
        }
        // 6 x = - y y - 8, so x = 9 y y + 6, and x x + 3 x + 4 y + 5 = 4 y^4 + 3 y y + 4 y + 4.
        duePolynomial("the one in y", r, 0, 4 * Y, 1, 2 * Y, 9, Y, 1, 0, 1);
        duePolynomial("the one with x", r, 1, X, 1, 2 * Y, 2, 0, 5);
    }

    public static void main(String[] args) {
        newObject();
        fields();
        coefficients();
        hands();
        joins();
        clears();
        findsAndTheirDegrees();
        findsThatFall();
        findsOnlyUpToTheDegree();
        howManyAreLeft();
        whatIsFoundStays();
        lefts();
        timesOfPairs();
        dictionaries();
        entries();
        System.out.println(asked + " answers, " + wrong + " of them wrong");
        if (wrong != 0) {
            System.exit(1);
        }
    }
}
