import java.util.ArrayList;
import java.util.HashMap;
import java.util.List;
import java.util.Map;

/**
 * Runs of 512 calls with any arguments in any state. Nothing but what the document names may be
 * thrown; a model holds the field, the hand and the generators, and a new object that is told just
 * those must find the same as the one that has lived through all the calls before.
 */
public final class WildCallsTest {
    private static final int[] HIGHEST = {30, 12, 7, 5};
    private static final int[] UNITS = {1 << 24, 1 << 16, 1 << 8, 1};
    private static final int[] NUMBERS = {Integer.MIN_VALUE, Integer.MIN_VALUE + 1, -32003, -256, -2, -1, 0, 1, 2, 3, 4, 5, 6, 7, 8, 12, 13,
        30, 31, 39, 40, 41, 126, 159, 160, 161, 255, 256, 32003, 65536, 16777216, 1 << 30, Integer.MAX_VALUE - 1, Integer.MAX_VALUE};
    private static final int[] PRIMES = {2, 3, 5, 7, 11, 101, 32003};

    private static long seed = 512L;
    private static int wrong = 0;
    private static int asked = 0;
    private static int foundCount = 0;

    private int p = 7;
    private int n = 2;
    private int order = 0;
    private Map<Integer, Integer> hand = new HashMap<>();
    private final List<Map<Integer, Integer>> generators = new ArrayList<>();
    private RemnantDictionary object = new RemnantDictionary();
    private RemnantDictionary mirror = new RemnantDictionary();

    private static int number(int below) {
        seed = seed * 6364136223846793005L + 1442695040888963407L;
        return (int) Math.floorMod(seed >>> 33, (long) below);
    }

    private static int any() {
        return number(4) == 0 ? NUMBERS[number(NUMBERS.length)] : number(45) - 2;
    }

    private static void due(String what, long want, long got) {
        asked++;
        if (want != got) {
            wrong++;
            if (wrong <= 20) {
                System.out.println(what + " answered " + got + ", due is " + want);
            }
        }
    }

    private boolean isMonomial(int e) {
        int sum = 0;
        for (int v = 0; v < 4; v++) {
            int exponent = e / UNITS[v] % 256;
            if (e < 0 || (v >= n && exponent != 0)) {
                return false;
            }
            sum += exponent;
        }
        return sum <= HIGHEST[n - 1];
    }

    private int monomial() {
        if (number(8) == 0) {
            return number(2) == 0 ? NUMBERS[number(NUMBERS.length)] : (int) (seed >>> 20);
        }
        int v = number(n);
        int e = number(3) == 0 ? 0 : UNITS[number(n)];
        return number(4) == 0 ? e : e + (1 + number(number(5) == 0 ? HIGHEST[n - 1] + 1 : 2)) * UNITS[v];
    }

    private void field() {
        boolean sound = number(3) != 0;
        int newP = sound ? PRIMES[number(PRIMES.length)] : any();
        int newN = sound ? 1 + number(4) : any();
        int newOrder = sound ? number(2) : any();
        boolean isPrime = newP >= 2 && newP <= 32003 && java.math.BigInteger.valueOf(newP).isProbablePrime(50);
        boolean want = isPrime && newN >= 1 && newN <= 4 && (newOrder == 0 || newOrder == 1);
        int got = 1;
        try {
            object.field(newP, newN, newOrder);
        } catch (IllegalArgumentException e) {
            got = 0;
        }
        due("field(" + newP + ", " + newN + ", " + newOrder + ")", want ? 1 : 0, got);
        if (want) {
            p = newP;
            n = newN;
            order = newOrder;
            hand.clear();
            generators.clear();
        }
    }

    private void coefficient() {
        int e = monomial();
        int c = any();
        int got = 1;
        try {
            object.coefficient(e, c);
        } catch (IllegalArgumentException x) {
            got = 0;
        }
        due("coefficient(" + e + ", " + c + ")", isMonomial(e) ? 1 : 0, got);
        if (isMonomial(e)) {
            hand.put(e, Math.floorMod(c, p));
            hand.values().removeIf(number -> number == 0);
        }
    }

    private void join() {
        int want = hand.isEmpty() ? -1001 : generators.size() == 8 ? -1002 : generators.size() + 1;
        int got;
        try {
            got = object.join();
        } catch (IllegalArgumentException e) {
            got = -1001;
        } catch (IllegalStateException e) {
            got = -1002;
        }
        due("join()", want, got);
        if (want > 0) {
            generators.add(hand);
            hand = new HashMap<>();
        }
    }

    private static int answerOfFind(RemnantDictionary r, int d) {
        try {
            return r.find(d);
        } catch (IllegalArgumentException e) {
            return -1001;
        } catch (IllegalStateException e) {
            return -1002;
        }
    }

    private void find() {
        int d = number(4) == 0 ? any() : HIGHEST[n - 1] - number(3);
        int got = answerOfFind(object, d);
        if (d < 0 || d > HIGHEST[n - 1]) {
            due("find(" + d + ")", -1001, got);
            return;
        }
        mirror = new RemnantDictionary();
        mirror.field(p, n, order);
        for (Map<Integer, Integer> g : generators) {
            for (Map.Entry<Integer, Integer> term : g.entrySet()) {
                mirror.coefficient(term.getKey(), term.getValue());
            }
            mirror.join();
        }
        due("find(" + d + ")", answerOfFind(mirror, d), got);
        foundCount += got > 0 ? 1 : 0;
    }

    private void ask() {
        int a = any();
        int b = any();
        int c = number(4) == 0 ? any() : number(3);
        int e = monomial();
        due("hand(" + e + ")", hand.getOrDefault(e, 0), object.hand(e));
        due("left(" + a + ")", mirror.left(a), object.left(a));
        due("times(" + c + ", " + a + ", " + b + ")", mirror.times(c, a, b), object.times(c, a, b));
        due("dictionary()", mirror.dictionary(), object.dictionary());
        due("entry(" + a + ", " + b + ", " + c + ")", mirror.entry(a, b, c), object.entry(a, b, c));
        due("entry(" + c + ", " + b + ", 1)", mirror.entry(c, b, 1), object.entry(c, b, 1));
    }

    /** The powers that leave an end over, so that runs find something now and then. */
    private int power() {
        for (int v = 0; v < n; v++) {
            int e = (1 + number(n == 4 ? 2 : 3)) * UNITS[v];
            object.coefficient(e, 1);
            hand.put(e, 1);
            join();
        }
        return 2 * n;
    }

    private void run() {
        for (int calls = 0; calls < 500; ) {
            int kind = number(32);
            if (kind == 0) {
                field();
                calls++;
            } else if (kind == 1) {
                object.clear();
                hand.clear();
                generators.clear();
                calls++;
            } else if (kind == 2) {
                calls += power();
            } else if (kind < 16) {
                coefficient();
                calls++;
            } else if (kind < 20) {
                join();
                calls++;
            } else if (kind < 24) {
                find();
                calls++;
            } else {
                ask();
                calls += 6;
            }
        }
    }

    public static void main(String[] args) {
        for (int run = 0; run < 300; run++) {
            new WildCallsTest().run();
        }
        due("runs find something now and then", 1, foundCount > 100 ? 1 : 0);
        System.out.println(foundCount + " found; " + asked + " answers, " + wrong + " of them wrong");
        if (wrong != 0) {
            System.exit(1);
        }
    }
}
