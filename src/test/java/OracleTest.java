import java.util.ArrayList;
import java.util.Collections;
import java.util.Comparator;
import java.util.HashMap;
import java.util.HashSet;
import java.util.List;
import java.util.Map;
import java.util.Set;
import java.util.TreeSet;

/**
 * Many ideals, made by a fixed row of numbers, against the document's definitions, which are
 * followed here word by word and slowly, with polynomials as maps.
 */
public final class OracleTest {
    private static final int[] HIGHEST = {30, 12, 7, 5};
    private static final int[] PRIMES = {2, 3, 5, 7, 101, 31991, 32003};
    private static final int REFUSED = -1002;

    private static int wrong = 0;
    private static int asked = 0;
    private static int foundCount = 0;
    private static int refusedCount = 0;
    private static long seed = 20261115L;

    private static int number(int below) {
        seed = seed * 6364136223846793005L + 1442695040888963407L;
        return (int) Math.floorMod(seed >>> 33, (long) below);
    }

    private static void due(String what, boolean right) {
        asked++;
        if (!right) {
            wrong++;
            if (wrong <= 20) {
                System.out.println("wrong: " + what);
            }
        }
    }

    // Monomials, by their four exponents.

    private static int[] exponents(int code) {
        return new int[] {code >>> 24, code >>> 16 & 255, code >>> 8 & 255, code & 255};
    }

    private static int code(int[] e) {
        return e[0] * 16777216 + e[1] * 65536 + e[2] * 256 + e[3];
    }

    private static int degree(int code) {
        int[] e = exponents(code);
        return e[0] + e[1] + e[2] + e[3];
    }

    private static boolean divides(int a, int b) {
        int[] e = exponents(a);
        int[] f = exponents(b);
        return e[0] <= f[0] && e[1] <= f[1] && e[2] <= f[2] && e[3] <= f[3];
    }

    private static int commonMultiple(int a, int b) {
        int[] e = exponents(a);
        int[] f = exponents(b);
        for (int v = 0; v < 4; v++) {
            e[v] = Math.max(e[v], f[v]);
        }
        return code(e);
    }

    private static int byDictionary(int a, int b) {
        int[] e = exponents(a);
        int[] f = exponents(b);
        for (int v = 0; v < 4; v++) {
            if (e[v] != f[v]) {
                return e[v] > f[v] ? 1 : -1;
            }
        }
        return 0;
    }

    private static int byOrder(int order, int a, int b) {
        if (degree(a) != degree(b)) {
            return degree(a) > degree(b) ? 1 : -1;
        }
        if (order == 1) {
            return byDictionary(a, b);
        }
        int[] e = exponents(a);
        int[] f = exponents(b);
        for (int v = 3; v >= 0; v--) {
            if (e[v] != f[v]) {
                return e[v] < f[v] ? 1 : -1;
            }
        }
        return 0;
    }

    /** A field, an order, generators, and the basis up to a degree, by the document's words. */
    private static final class Ideal {
        final int p;
        final int n;
        final int order;
        final Comparator<Integer> comparator;
        final List<Map<Integer, Long>> generators = new ArrayList<>();
        List<Map<Integer, Long>> basis;
        List<Integer> leads;

        Ideal(int p, int n, int order) {
            this.p = p;
            this.n = n;
            this.order = order;
            this.comparator = (a, b) -> byOrder(order, a, b);
        }

        int unit(int v) {
            int[] e = new int[4];
            e[v] = 1;
            return code(e);
        }

        int lead(Map<Integer, Long> f) {
            return Collections.max(f.keySet(), comparator);
        }

        int degreeOf(Map<Integer, Long> f) {
            int most = -1;
            for (int m : f.keySet()) {
                most = Math.max(most, degree(m));
            }
            return most;
        }

        void add(Map<Integer, Long> to, Map<Integer, Long> f, int monomial, long factor) {
            for (Map.Entry<Integer, Long> term : f.entrySet()) {
                int m = term.getKey() + monomial;
                long c = Math.floorMod(to.getOrDefault(m, 0L) + factor * term.getValue(), (long) p);
                if (c == 0) {
                    to.remove(m);
                } else {
                    to.put(m, c);
                }
            }
        }

        long inverse(long a) {
            return java.math.BigInteger.valueOf(a).modInverse(java.math.BigInteger.valueOf(p)).longValue();
        }

        /** Rows with different leading monomials that span what the given ones span, none of whose leading ones is in another. */
        List<Map<Integer, Long>> echelon(List<Map<Integer, Long>> given) {
            Map<Integer, Map<Integer, Long>> rows = new HashMap<>();
            for (Map<Integer, Long> f : given) {
                Map<Integer, Long> g = new HashMap<>(f);
                for (int m : new ArrayList<>(g.keySet())) {
                    if (rows.containsKey(m)) {
                        add(g, rows.get(m), 0, -g.get(m));
                    }
                }
                if (!g.isEmpty()) {
                    int lead = lead(g);
                    Map<Integer, Long> monic = new HashMap<>();
                    add(monic, g, 0, inverse(g.get(lead)));
                    for (Map<Integer, Long> row : rows.values()) {
                        if (row.containsKey(lead)) {
                            add(row, monic, 0, -row.get(lead));
                        }
                    }
                    rows.put(lead, monic);
                }
            }
            return new ArrayList<>(rows.values());
        }

        List<Map<Integer, Long>> space(int d) {
            List<Map<Integer, Long>> all = new ArrayList<>();
            for (Map<Integer, Long> g : generators) {
                if (degreeOf(g) <= d) {
                    all.add(g);
                }
            }
            all = echelon(all);
            while (true) {
                int before = all.size();
                List<Map<Integer, Long>> more = new ArrayList<>(all);
                for (Map<Integer, Long> f : all) {
                    for (int v = 0; v < n && degreeOf(f) < d; v++) {
                        Map<Integer, Long> product = new HashMap<>();
                        add(product, f, unit(v), 1);
                        more.add(product);
                    }
                }
                all = echelon(more);
                if (all.size() == before) {
                    return all;
                }
            }
        }

        void setBasis(int d) {
            List<Map<Integer, Long>> space = space(d);
            basis = new ArrayList<>();
            leads = new ArrayList<>();
            for (Map<Integer, Long> f : space) {
                boolean least = true;
                for (Map<Integer, Long> g : space) {
                    least &= f == g || !divides(lead(g), lead(f));
                }
                if (least) {
                    basis.add(f);
                    leads.add(lead(f));
                }
            }
        }

        boolean isComplete(int d) {
            for (Map<Integer, Long> g : generators) {
                if (degreeOf(g) > d) {
                    return false;
                }
            }
            for (int a : leads) {
                for (int b : leads) {
                    int common = commonMultiple(a, b);
                    if (a != b && degree(common) > d && common != a + b) {
                        return false;
                    }
                }
            }
            return true;
        }

        /** Reduced by the basis, a monomial at a time. */
        Map<Integer, Long> remainder(Map<Integer, Long> f) {
            Map<Integer, Long> rest = new HashMap<>(f);
            while (true) {
                int best = -1;
                int by = -1;
                for (int m : rest.keySet()) {
                    for (int b = 0; b < leads.size(); b++) {
                        if (divides(leads.get(b), m) && (best == -1 || byOrder(order, m, best) > 0)) {
                            best = m;
                            by = b;
                        }
                    }
                }
                if (best == -1) {
                    return rest;
                }
                add(rest, basis.get(by), best - leads.get(by), -rest.get(best));
            }
        }

        /** Buchberger's test with every pair, so that the document's shortcut is tested too. */
        boolean isGroebner() {
            for (int a = 0; a < leads.size(); a++) {
                for (int b = 0; b < a; b++) {
                    int common = commonMultiple(leads.get(a), leads.get(b));
                    Map<Integer, Long> s = new HashMap<>();
                    add(s, basis.get(a), common - leads.get(a), 1);
                    add(s, basis.get(b), common - leads.get(b), -1);
                    if (!remainder(s).isEmpty()) {
                        return false;
                    }
                }
            }
            return true;
        }

        /** Monomials that none of these divides, or null if they are more than 40. */
        List<Integer> notDivided(List<Integer> divisors) {
            Set<Integer> seen = new HashSet<>();
            List<Integer> all = new ArrayList<>();
            if (isDivided(0, divisors)) {
                return all;
            }
            seen.add(0);
            all.add(0);
            for (int i = 0; i < all.size(); i++) {
                for (int v = 0; v < n; v++) {
                    int m = all.get(i) + unit(v);
                    if (!isDivided(m, divisors) && seen.add(m)) {
                        all.add(m);
                    }
                }
                if (all.size() > 40) {
                    return null;
                }
            }
            all.sort(comparator);
            return all;
        }

        boolean isDivided(int m, List<Integer> divisors) {
            for (int divisor : divisors) {
                if (divides(divisor, m)) {
                    return true;
                }
            }
            return false;
        }

        /** What is left over, or null where find() is to be refused. */
        List<Integer> leftOver(int d) {
            setBasis(d);
            if (!isComplete(d) || leads.contains(0)) {
                return null;
            }
            return notDivided(leads);
        }
    }

    /** Asks an object, and lets a new one that was told the same take its place before its 512th call. */
    private static final class Asked {
        final Ideal ideal;
        final int d;
        RemnantDictionary object;
        int calls;
        int found;

        Asked(Ideal ideal, int d) {
            this.ideal = ideal;
            this.d = d;
            tell();
        }

        void tell() {
            object = new RemnantDictionary();
            object.field(ideal.p, ideal.n, ideal.order);
            calls = 1;
            for (Map<Integer, Long> g : ideal.generators) {
                for (Map.Entry<Integer, Long> term : g.entrySet()) {
                    object.coefficient(term.getKey(), (int) (long) term.getValue() - (number(2) == 0 ? 0 : ideal.p));
                    calls++;
                }
                object.join();
                calls++;
            }
            try {
                found = object.find(d);
            } catch (IllegalStateException e) {
                found = REFUSED;
            }
            calls++;
        }

        RemnantDictionary one() {
            if (calls >= 511) {
                tell();
            }
            calls++;
            return object;
        }
    }

    private static void check(Ideal ideal, int d) {
        List<Integer> left = ideal.leftOver(d);
        Asked asks = new Asked(ideal, d);
        String what = "p " + ideal.p + ", n " + ideal.n + ", order " + ideal.order + ", d " + d + ", " + ideal.generators;
        if (left == null) {
            refusedCount++;
            due("to be refused: " + what, asks.found == REFUSED);
            due("nothing left: " + what, asks.one().left(0) == -1);
            due("no dictionary: " + what, asks.one().dictionary() == 0);
            return;
        }
        foundCount++;
        due("the oracle's own basis: " + what, ideal.isGroebner());
        due("how many: " + what, asks.found == left.size());
        if (asks.found != left.size()) {
            return;
        }
        for (int k = 0; k <= left.size(); k++) {
            due("left(" + k + "): " + what, asks.one().left(k) == (k < left.size() ? left.get(k) : -1));
        }
        checkTimes(ideal, asks, left, what);
        checkDictionary(ideal, asks, left.size(), what);
    }

    private static void checkTimes(Ideal ideal, Asked asks, List<Integer> left, String what) {
        for (int v = 0; v < ideal.n; v++) {
            for (int k = 0; k < left.size(); k++) {
                Map<Integer, Long> product = new HashMap<>();
                product.put(left.get(k) + ideal.unit(v), 1L);
                Map<Integer, Long> want = ideal.remainder(product);
                for (int j = 0; j < left.size(); j++) {
                    long due = want.getOrDefault(left.get(j), 0L);
                    due("times(" + v + ", " + k + ", " + j + "): " + what, asks.one().times(v, k, j) == due);
                }
            }
        }
    }

    /** The answers are the reduced basis just if they are of the ideal, are reduced, and leave as many over. */
    private static void checkDictionary(Ideal ideal, Asked asks, int size, String what) {
        int count = asks.one().dictionary();
        List<Integer> heads = new ArrayList<>();
        List<Map<Integer, Long>> tails = new ArrayList<>();
        for (int k = 0; k < count; k++) {
            Map<Integer, Long> polynomial = new HashMap<>();
            int last = -1;
            for (int j = 0; j < 50; j++) {
                int m = asks.one().entry(k, j, 0);
                int c = asks.one().entry(k, j, 1);
                if (m == -1) {
                    due("no coefficient either: " + what, c == -1);
                    break;
                }
                due("terms fall: " + what, j == 0 || byDictionary(m, last) < 0);
                due("a coefficient: " + what, j == 0 ? c == 1 : c > 0 && c < ideal.p);
                polynomial.put(m, (long) c);
                last = m;
                if (j == 0) {
                    heads.add(m);
                }
            }
            due("a polynomial of the ideal: " + what, ideal.remainder(polynomial).isEmpty());
            tails.add(polynomial);
        }
        due("as many heads: " + what, heads.size() == count);
        for (int k = 0; k < heads.size(); k++) {
            due("heads rise: " + what, k == 0 || byDictionary(heads.get(k - 1), heads.get(k)) < 0);
            for (int m : tails.get(k).keySet()) {
                for (int i = 0; i < heads.size(); i++) {
                    due("reduced: " + what, (i == k && m == heads.get(k)) || !divides(heads.get(i), m));
                }
            }
        }
        List<Integer> standard = ideal.notDivided(heads);
        due("as many standard ones: " + what, standard != null && standard.size() == size);
        due("none behind the last: " + what, asks.one().entry(count, 0, 0) == -1);
    }

    // Ideals of several kinds.

    private static int monomialBelow(Ideal ideal, int degree) {
        int[] e = new int[4];
        int left = number(degree + 1);
        for (int step = 0; step < left; step++) {
            e[number(ideal.n)]++;
        }
        return code(e);
    }

    private static void addTerms(Ideal ideal, Map<Integer, Long> f, int degree, int terms) {
        for (int t = 0; t < terms; t++) {
            Map<Integer, Long> one = new HashMap<>();
            one.put(monomialBelow(ideal, degree), 1L);
            ideal.add(f, one, 0, 1 + number(ideal.p - 1 == 0 ? 1 : ideal.p - 1));
        }
    }

    private static void keep(Ideal ideal, Map<Integer, Long> f) {
        if (!f.isEmpty() && ideal.generators.size() < 8) {
            ideal.generators.add(f);
        }
    }

    /** A power of each variable with lesser terms, as many left over as the powers' product. */
    private static Ideal powers(int n, int p, int order, int most) {
        Ideal ideal = new Ideal(p, n, order);
        int product = 1;
        for (int v = 0; v < n; v++) {
            int top = Math.min(HIGHEST[n - 1], Math.max(1, most / product));
            int power = v == n - 1 ? top : 1 + number(Math.min(top, n == 2 ? 8 : 4));
            product *= power;
            Map<Integer, Long> f = new HashMap<>();
            addTerms(ideal, f, power - 1, number(5));
            Map<Integer, Long> one = new HashMap<>();
            one.put(power * ideal.unit(v), 1L);
            ideal.add(f, one, 0, 1);
            keep(ideal, f);
        }
        return ideal;
    }

    private static Ideal mixed(int n, int p, int order) {
        Ideal ideal = powers(n, p, order, 8 + number(20));
        List<Map<Integer, Long>> sums = new ArrayList<>();
        for (int i = 0; i < ideal.generators.size(); i++) {
            Map<Integer, Long> sum = new HashMap<>(ideal.generators.get(i));
            for (int j = 0; j < i; j++) {
                ideal.add(sum, ideal.generators.get(j), 0, 1 + number(p));
            }
            sums.add(sum);
        }
        ideal.generators.clear();
        for (Map<Integer, Long> sum : sums) {
            keep(ideal, sum);
        }
        return ideal;
    }

    private static Ideal anyPolynomials(int n, int p, int order) {
        Ideal ideal = new Ideal(p, n, order);
        int count = Math.min(8, n + number(4));
        int degree = 1 + number(n <= 2 ? 4 : 2);
        for (int g = 0; g < count; g++) {
            Map<Integer, Long> f = new HashMap<>();
            addTerms(ideal, f, degree, 2 + number(5));
            keep(ideal, f);
        }
        return ideal;
    }

    /** Powers of variables and mixed monomials, with terms that lack the constant: 1 stays out of it. */
    private static Ideal atOrigin(int n, int p, int order) {
        Ideal ideal = powers(n, p, order, 30 + number(30));
        int more = number(4);
        for (int g = 0; g < more; g++) {
            Map<Integer, Long> f = new HashMap<>();
            addTerms(ideal, f, n <= 2 ? 5 : 3, 1 + number(3));
            keep(ideal, f);
        }
        for (Map<Integer, Long> f : ideal.generators) {
            f.remove(0);
        }
        ideal.generators.removeIf(Map::isEmpty);
        return ideal;
    }

    /** Many terms of the highest degree in each, so that what products come to has terms of their own degree. */
    private static Ideal dense(int n, int p, int order) {
        Ideal ideal = new Ideal(p, n, order);
        int count = Math.min(8, n + number(3));
        for (int g = 0; g < count; g++) {
            int degree = n == 1 ? 1 + number(30) : n == 2 ? 2 + number(4) : n == 3 ? 2 + number(2) : 2;
            Map<Integer, Long> f = new HashMap<>();
            boolean constant = number(3) != 0;
            addTerms(ideal, f, degree, 4 + number(30));
            if (!constant) {
                f.remove(0);
            }
            keep(ideal, f);
        }
        return ideal;
    }

    private static Ideal some(int kind, int n, int p, int order) {
        if (kind == 0) {
            return powers(n, p, order, 40);
        }
        if (kind == 1) {
            return powers(n, p, order, 1 + number(44));
        }
        if (kind == 2) {
            return mixed(n, p, order);
        }
        if (kind == 3) {
            return anyPolynomials(n, p, order);
        }
        return kind == 4 ? atOrigin(n, p, order) : dense(n, p, order);
    }

    private static Set<Integer> degreesFor(Ideal ideal) {
        Set<Integer> degrees = new TreeSet<>();
        int highest = HIGHEST[ideal.n - 1];
        degrees.add(highest);
        degrees.add(number(highest + 1));
        int most = 0;
        for (Map<Integer, Long> g : ideal.generators) {
            most = Math.max(most, ideal.degreeOf(g));
        }
        degrees.add(most);
        degrees.add(Math.min(highest, most + 1));
        return degrees;
    }

    public static void main(String[] args) {
        int rounds = args.length > 0 ? Integer.parseInt(args[0]) : 12;
        for (int round = 0; round < rounds; round++) {
            for (int n = 1; n <= 4; n++) {
                for (int order = 0; order <= 1; order++) {
                    for (int kind = 0; kind <= 5; kind++) {
                        Ideal ideal = some(kind, n, PRIMES[number(PRIMES.length)], order);
                        for (int d : degreesFor(ideal)) {
                            check(ideal, d);
                        }
                    }
                }
            }
        }
        due("enough was found and enough refused", foundCount >= 50 * rounds && refusedCount >= 25 * rounds);
        System.out.println(foundCount + " found, " + refusedCount + " refused; " + asked + " answers, " + wrong + " of them wrong");
        if (wrong != 0) {
            System.exit(1);
        }
    }
}
