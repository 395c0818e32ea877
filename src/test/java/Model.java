import java.math.BigDecimal;
import java.math.BigInteger;
import java.math.MathContext;
import java.util.ArrayDeque;
import java.util.ArrayList;
import java.util.Deque;
import java.util.List;

/**
 * The document read a second time, by other ways than the class goes: ranks and solutions by
 * determinants of parts (Leibniz, Cramer), digits by inverses modulo powers, guesses by the shortest
 * vector of a lattice, bits by the library. Slow and without any care for room.
 */
final class Model {
    static final int NONE = -1;
    static final int PLUS = 1000000000;
    static final int UNKNOWN = -1000000001;
    static final int OUTSIDE = -1000000002;
    static final int NOT = -1000000003;
    static final int FULL = -1000000004;
    static final BigInteger LIMIT = BigInteger.valueOf(2000000000000000000L);

    static final List<Integer> PRIMES = primes();

    private static List<Integer> primes() {
        List<Integer> found = new ArrayList<>();
        for (int v = 2; v < 100; v++) {
            if (BigInteger.valueOf(v).isProbablePrime(50)) {
                found.add(v);
            }
        }
        return found;
    }

    private record State(int n, int[][] table, int[] side, int prime) {
        State copy() {
            int[][] rows = new int[n][];
            for (int i = 0; i < n; i++) {
                rows[i] = table[i].clone();
            }
            return new State(n, rows, side.clone(), prime);
        }
    }

    private record Kept(State state, long seed) {
    }

    private record Entry(int j, int k, int v) {
    }

    private record Fraction(BigInteger above, BigInteger below) {
        static Fraction of(BigInteger a, BigInteger b) {
            BigInteger g = a.gcd(b);
            if (b.signum() < 0) {
                g = g.negate();
            }
            return new Fraction(a.divide(g), b.divide(g));
        }
    }

    private State s = ones(2, 3);
    private long seed = 0;
    private final List<Entry> book = new ArrayList<>();
    private final Deque<State> earlier = new ArrayDeque<>();
    private final Kept[] images = new Kept[2];

    private static State ones(int n, int prime) {
        int[][] table = new int[n][n];
        for (int i = 0; i < n; i++) {
            table[i][i] = 1;
        }
        return new State(n, table, new int[n], prime);
    }

    // ---- whole numbers

    private static BigInteger big(long v) {
        return BigInteger.valueOf(v);
    }

    /** Leibniz: the sum over all orders of the columns. */
    private static BigInteger determinant(int[][] m) {
        return determinant(m, 0, 0);
    }

    private static BigInteger determinant(int[][] m, int row, int used) {
        if (row == m.length) {
            return BigInteger.ONE;
        }
        BigInteger sum = BigInteger.ZERO;
        for (int j = 0; j < m.length; j++) {
            if ((used >> j & 1) == 0 && m[row][j] != 0) {
                BigInteger term = big(m[row][j]).multiply(determinant(m, row + 1, used | 1 << j));
                boolean odd = (Integer.bitCount(used >> j) & 1) == 1;
                sum = odd ? sum.subtract(term) : sum.add(term);
            }
        }
        return sum;
    }

    /** The table with the side as one column more. */
    private int[][] wide() {
        int[][] m = new int[s.n][s.n + 1];
        for (int i = 0; i < s.n; i++) {
            System.arraycopy(s.table[i], 0, m[i], 0, s.n);
            m[i][s.n] = s.side[i];
        }
        return m;
    }

    private static int[][] part(int[][] m, int rows, int columns) {
        int count = Integer.bitCount(rows);
        int[][] part = new int[count][count];
        int y = 0;
        for (int i = 0; i < m.length; i++) {
            if ((rows >> i & 1) == 1) {
                int x = 0;
                for (int j = 0; j < m[i].length; j++) {
                    if ((columns >> j & 1) == 1) {
                        part[y][x++] = m[i][j];
                    }
                }
                y++;
            }
        }
        return part;
    }

    /** The greatest part of these columns whose determinant is not 0 (by p, if that is not 0). */
    private static int rank(int[][] m, int columns, int p) {
        int best = 0;
        for (int c = columns; c > 0; c = (c - 1) & columns) {
            if (Integer.bitCount(c) > best) {
                for (int r = 1; r < 1 << m.length; r++) {
                    if (Integer.bitCount(r) == Integer.bitCount(c)) {
                        BigInteger d = determinant(part(m, r, c));
                        if (p != 0) {
                            d = d.mod(big(p));
                        }
                        if (d.signum() != 0) {
                            best = Math.max(best, Integer.bitCount(c));
                        }
                    }
                }
            }
        }
        return best;
    }

    private int all() {
        return (1 << s.n) - 1;
    }

    private int rank() {
        return rank(wide(), all(), 0);
    }

    private int wideRank() {
        return rank(wide(), 2 * all() + 1, 0);
    }

    private BigInteger determinant() {
        return determinant(s.table);
    }

    private int leading() {
        int set = 0;
        for (int j = 0; j < s.n; j++) {
            int ahead = (1 << j) - 1;
            if (rank(wide(), ahead | 1 << j, 0) > rank(wide(), ahead, 0)) {
                set |= 1 << j;
            }
        }
        return set;
    }

    private int kind() {
        if (wideRank() > rank()) {
            return 0;
        }
        return rank() == s.n ? 1 : 2;
    }

    /** By which multiples the LEADING columns make column j (n: the side), if they do: Cramer. */
    private Fraction[] multiples(int j) {
        int lead = leading();
        int r = Integer.bitCount(lead);
        Fraction[] found = new Fraction[r];
        int[][] m = wide();
        for (int rows = 0; rows < 1 << s.n; rows++) {
            if (Integer.bitCount(rows) == r && determinant(part(m, rows, lead)).signum() != 0) {
                BigInteger below = determinant(part(m, rows, lead));
                for (int x = 0; x < r; x++) {
                    int[][] replaced = part(m, rows, lead);
                    int y = 0;
                    for (int i = 0; i < s.n; i++) {
                        if ((rows >> i & 1) == 1) {
                            replaced[y++][x] = m[i][j];
                        }
                    }
                    found[x] = Fraction.of(determinant(replaced), below);
                }
                return found;
            }
        }
        throw new IllegalStateException("no rows for the leading columns");
    }

    private Fraction cleared(int r, int j) {
        return multiples(j)[r];
    }

    private int broken() {
        int count = 0;
        for (int r = 0; r < rank(); r++) {
            boolean whole = true;
            for (int j = 0; j < s.n; j++) {
                whole &= cleared(r, j).below.equals(BigInteger.ONE);
            }
            count += whole ? 0 : 1;
        }
        return count;
    }

    private Fraction solution(int j) {
        int lead = leading();
        if ((lead >> j & 1) == 0) {
            return new Fraction(BigInteger.ZERO, BigInteger.ONE);
        }
        return multiples(s.n)[Integer.bitCount(lead & (1 << j) - 1)];
    }

    private BigInteger vanishing(int j) {
        int lead = leading();
        int free = Integer.numberOfTrailingZeros(~lead);
        Fraction[] f = multiples(free);
        BigInteger times = BigInteger.ONE;
        while (!allWhole(f, times)) {
            times = times.add(BigInteger.ONE);
        }
        if (j == free) {
            return times;
        }
        if ((lead >> j & 1) == 0) {
            return BigInteger.ZERO;
        }
        Fraction z = f[Integer.bitCount(lead & (1 << j) - 1)];
        return z.above.multiply(times).divide(z.below).negate();
    }

    private static boolean allWhole(Fraction[] f, BigInteger times) {
        for (Fraction one : f) {
            if (times.mod(one.below).signum() != 0) {
                return false;
            }
        }
        return true;
    }

    // ---- by the prime

    private int p() {
        return PRIMES.get(s.prime);
    }

    private boolean bad() {
        return determinant().mod(big(p())).signum() == 0;
    }

    private int moduloRank() {
        return rank(wide(), all(), p());
    }

    private int ways() {
        double tries = Math.pow(p(), s.n);
        if (tries <= 3000) {
            return waysByTrial();
        }
        int rank = moduloRank();
        if (rank(wide(), 2 * all() + 1, p()) > rank) {
            return 0;
        }
        return big(p()).pow(s.n - rank).intValueExact();
    }

    private int waysByTrial() {
        int count = 0;
        int tries = big(p()).pow(s.n).intValueExact();
        for (int code = 0; code < tries; code++) {
            boolean fits = true;
            for (int i = 0; i < s.n; i++) {
                int sum = -s.side[i];
                int left = code;
                for (int j = 0; j < s.n; j++) {
                    sum += s.table[i][j] * (left % p());
                    left /= p();
                }
                fits &= sum % p() == 0;
            }
            count += fits ? 1 : 0;
        }
        return count;
    }

    /** Each column of C by trial of Cramer's rule modulo p. */
    private int inverse(int i, int j) {
        int[][] replaced = s.copy().table;
        for (int k = 0; k < s.n; k++) {
            replaced[k][i] = k == j ? 1 : 0;
        }
        BigInteger p = big(p());
        return determinant(replaced).multiply(determinant().modInverse(p)).mod(p).intValueExact();
    }

    /** What the first k digits of X j make. */
    private BigInteger made(int j, int k) {
        BigInteger m = big(p()).pow(k);
        Fraction x = solution(j);
        return x.above.multiply(x.below.modInverse(m)).mod(m);
    }

    private int digitOf(int j, int k) {
        return made(j, k + 1).divide(big(p()).pow(k)).intValueExact();
    }

    private BigInteger restOf(int i, int k) {
        BigInteger left = big(s.side[i]);
        for (int j = 0; j < s.n; j++) {
            left = left.subtract(big(s.table[i][j]).multiply(made(j, k)));
        }
        BigInteger[] parts = left.divideAndRemainder(big(p()).pow(k));
        if (parts[1].signum() != 0) {
            throw new IllegalStateException("a rest is not whole");
        }
        return parts[0];
    }

    /** null: there is none. */
    private Fraction guessOf(int j, int k) {
        BigInteger m = big(p()).pow(k);
        BigInteger t = m.subtract(BigInteger.ONE).divide(BigInteger.TWO).sqrt();
        BigInteger a = made(j, k);
        Fraction byLattice = shortest(a, m, t);
        if (t.bitLength() <= 7) {
            Fraction byTrial = byTrial(a, m, t);
            if (byTrial == null ? byLattice != null : !byTrial.equals(byLattice)) {
                throw new IllegalStateException("the model's two guesses differ");
            }
        }
        return byLattice;
    }

    private Fraction byTrial(BigInteger a, BigInteger m, BigInteger t) {
        Fraction found = null;
        for (long v = 1; v <= t.longValue(); v++) {
            for (long u = -t.longValue(); u <= t.longValue(); u++) {
                boolean fits = a.multiply(big(v)).subtract(big(u)).mod(m).signum() == 0;
                if (fits && v % p() != 0 && big(u).gcd(big(v)).equals(BigInteger.ONE)) {
                    if (found != null) {
                        throw new IllegalStateException("two guesses");
                    }
                    found = new Fraction(big(u), big(v));
                }
            }
        }
        return found;
    }

    /** A fit shorter than the root of M is the shortest vector of all (u, v) with a v less u divided by M. */
    private Fraction shortest(BigInteger a, BigInteger m, BigInteger t) {
        BigInteger[] b = {m, BigInteger.ZERO};
        BigInteger[] c = {a, BigInteger.ONE};
        if (dot(b, b).compareTo(dot(c, c)) < 0) {
            BigInteger[] swap = b;
            b = c;
            c = swap;
        }
        while (true) {
            BigInteger twice = dot(b, c).multiply(BigInteger.TWO).add(dot(c, c));
            BigInteger[] parts = twice.divideAndRemainder(dot(c, c).multiply(BigInteger.TWO));
            BigInteger q = parts[1].signum() < 0 ? parts[0].subtract(BigInteger.ONE) : parts[0];
            BigInteger[] d = {b[0].subtract(q.multiply(c[0])), b[1].subtract(q.multiply(c[1]))};
            if (dot(d, d).compareTo(dot(c, c)) >= 0) {
                break;
            }
            b = c;
            c = d;
        }
        BigInteger u = c[1].signum() < 0 ? c[0].negate() : c[0];
        BigInteger v = c[1].abs();
        boolean fits = v.signum() > 0 && v.compareTo(t) <= 0 && u.abs().compareTo(t) <= 0;
        boolean lowest = u.gcd(v).equals(BigInteger.ONE) && v.mod(big(p())).signum() != 0;
        return fits && lowest ? new Fraction(u, v) : null;
    }

    private static BigInteger dot(BigInteger[] x, BigInteger[] y) {
        return x[0].multiply(y[0]).add(x[1].multiply(y[1]));
    }

    private int sure() {
        BigInteger product = BigInteger.TWO;
        for (int i = 0; i < s.n; i++) {
            int sum = s.side[i] * s.side[i];
            for (int v : s.table[i]) {
                sum += v * v;
            }
            product = product.multiply(big(sum));
        }
        int k = 0;
        while (big(p()).pow(k).compareTo(product) <= 0) {
            k++;
        }
        return k;
    }

    private boolean guessedRight(int k) {
        for (int j = 0; j < s.n; j++) {
            if (!solution(j).equals(guessOf(j, k))) {
                return false;
            }
        }
        return true;
    }

    private boolean guessedAll(int k) {
        for (int j = 0; j < s.n; j++) {
            if (guessOf(j, k) == null) {
                return false;
            }
        }
        return true;
    }

    private int early() {
        int k = 1;
        while (!guessedRight(k)) {
            k++;
        }
        if (k > sure()) {
            throw new IllegalStateException("EARLY is more than SURE");
        }
        return k;
    }

    private int tooSoon() {
        int count = 0;
        for (int k = early() - 1; k >= 1; k--) {
            count += guessedAll(k) ? 1 : 0;
        }
        return count;
    }

    private int firstWrong() {
        for (int e = 0; e < book.size(); e++) {
            Entry entry = book.get(e);
            if (entry.j >= s.n || bad() || digitOf(entry.j, entry.k) != entry.v) {
                return e;
            }
        }
        return NONE;
    }

    // ---- the calls

    private boolean has(int index) {
        return index >= 0 && index < s.n;
    }

    int told(int what) {
        switch (what) {
            case 0: return s.n;
            case 1: return p();
            case 2: return determinant().intValueExact() + PLUS;
            case 3: return rank();
            case 4: return wideRank();
            case 5: return kind();
            case 6: return leading();
            case 7: return broken();
            case 8: return bad() ? 1 : 0;
            case 9: return (int) PRIMES.stream().filter(q -> determinant().mod(big(q)).signum() == 0).count();
            case 10: return moduloRank();
            case 11: return ways();
            case 12: return bad() ? NONE : sure();
            case 13: return bad() ? NONE : early();
            case 14: return bad() ? NONE : tooSoon();
            case 15: return book.size();
            case 16: return firstWrong();
            case 17: return earlier.size();
            default: return OUTSIDE;
        }
    }

    int at(int i, int j) {
        if (!has(i) || !(has(j) || j == s.n)) {
            return UNKNOWN;
        }
        return wide()[i][j] + 100;
    }

    int cleared(int r, int j, int what) {
        if (r < 0 || r >= rank() || !has(j)) {
            return UNKNOWN;
        }
        if (what != 0 && what != 1) {
            return OUTSIDE;
        }
        Fraction f = cleared(r, j);
        return what == 0 ? f.above.intValueExact() + PLUS : f.below.intValueExact();
    }

    int solution(int j, int what) {
        if (!has(j)) {
            return UNKNOWN;
        }
        if (what != 0 && what != 1) {
            return OUTSIDE;
        }
        if (kind() == 0) {
            return NONE;
        }
        return what == 0 ? solution(j).above.intValueExact() + PLUS : solution(j).below.intValueExact();
    }

    int nothing(int j) {
        if (!has(j)) {
            return UNKNOWN;
        }
        return rank() == s.n ? NONE : vanishing(j).intValueExact() + PLUS;
    }

    int back(int i, int j) {
        if (!has(i) || !has(j)) {
            return UNKNOWN;
        }
        return bad() ? NOT : inverse(i, j);
    }

    int digit(int j, int k) {
        if (!has(j)) {
            return UNKNOWN;
        }
        if (k < 0 || k > 99) {
            return OUTSIDE;
        }
        return bad() ? NOT : digitOf(j, k);
    }

    int rest(int i, int k) {
        if (!has(i)) {
            return UNKNOWN;
        }
        if (k < 0 || k > 100) {
            return OUTSIDE;
        }
        return bad() ? NOT : restOf(i, k).intValueExact() + PLUS;
    }

    long guess(int j, int k, int what) {
        if (!has(j)) {
            return UNKNOWN;
        }
        if (what != 0 && what != 1 || k < 1 || k > 100 || big(p()).pow(k).compareTo(LIMIT) > 0) {
            return OUTSIDE;
        }
        if (bad()) {
            return NOT;
        }
        Fraction f = guessOf(j, k);
        if (f == null) {
            return NONE;
        }
        return what == 0 ? f.above.longValueExact() + 4000000000L : f.below.longValueExact();
    }

    private double nearest(int j) {
        Fraction x = solution(j);
        return new BigDecimal(x.above).divide(new BigDecimal(x.below), new MathContext(80)).doubleValue();
    }

    long near(int j) {
        if (!has(j)) {
            return UNKNOWN;
        }
        return kind() == 0 ? NONE : Double.doubleToRawLongBits(nearest(j));
    }

    long shortly(int j) {
        if (!has(j)) {
            return UNKNOWN;
        }
        return kind() == 0 ? NONE : Float.floatToRawIntBits((float) nearest(j)) & 0xffffffffL;
    }

    long cut(int j) {
        if (!has(j)) {
            return UNKNOWN;
        }
        if (kind() == 0) {
            return NONE;
        }
        float product = new BigDecimal((float) nearest(j)).multiply(new BigDecimal(1000)).floatValue();
        return new BigDecimal(product).toBigInteger().intValueExact() + 3000000000L;
    }

    private void remember() {
        earlier.push(s.copy());
        if (earlier.size() > 16) {
            earlier.removeLast();
        }
    }

    int size(int n) {
        if (n < 1 || n > 4) {
            return OUTSIDE;
        }
        remember();
        int was = s.n;
        s = ones(n, s.prime);
        return was;
    }

    int put(int i, int j, int v) {
        if (!has(i) || !has(j)) {
            return UNKNOWN;
        }
        if (v < -9 || v > 9) {
            return OUTSIDE;
        }
        remember();
        int was = s.table[i][j];
        s.table[i][j] = v;
        return was + 100;
    }

    int side(int i, int v) {
        if (!has(i)) {
            return UNKNOWN;
        }
        if (v < -99 || v > 99) {
            return OUTSIDE;
        }
        remember();
        int was = s.side[i];
        s.side[i] = v;
        return was + 100;
    }

    int swap(int i, int j) {
        if (!has(i) || !has(j) || i == j) {
            return UNKNOWN;
        }
        remember();
        int[] row = s.table[i];
        s.table[i] = s.table[j];
        s.table[j] = row;
        int side = s.side[i];
        s.side[i] = s.side[j];
        s.side[j] = side;
        return 1;
    }

    int mix(int i, int j, int t) {
        if (!has(i) || !has(j) || i == j) {
            return UNKNOWN;
        }
        if (t < -3 || t > 3) {
            return OUTSIDE;
        }
        State mixed = s.copy();
        for (int c = 0; c < s.n; c++) {
            mixed.table[i][c] += t * s.table[j][c];
            if (Math.abs(mixed.table[i][c]) > 9) {
                return FULL;
            }
        }
        mixed.side[i] += t * s.side[j];
        if (Math.abs(mixed.side[i]) > 99) {
            return FULL;
        }
        remember();
        s = mixed;
        return 1;
    }

    int turn() {
        remember();
        State turned = s.copy();
        for (int i = 0; i < s.n; i++) {
            for (int j = 0; j < s.n; j++) {
                turned.table[i][j] = s.table[j][i];
            }
        }
        s = turned;
        return rank();
    }

    int prime(int k) {
        if (k < 0 || k > 24) {
            return OUTSIDE;
        }
        remember();
        s = new State(s.n, s.table, s.side, k);
        return p();
    }

    private int draw(int n) {
        seed = big(seed).multiply(big(1103515245)).add(big(12345)).mod(BigInteger.TWO.pow(31)).longValueExact();
        return (int) (seed / 65536 % n);
    }

    int drift(int n) {
        if (n < 1 || n > 12) {
            return OUTSIDE;
        }
        for (int time = 0; time < n; time++) {
            remember();
            int i = draw(s.n);
            int j = draw(s.n + 1);
            int v = draw(19);
            if (j == s.n) {
                s.side[i] = 11 * v - 99;
            } else {
                s.table[i][j] = v - 9;
            }
        }
        return rank();
    }

    int undo(int n) {
        if (n < 1 || n > 16) {
            return OUTSIDE;
        }
        if (n > earlier.size()) {
            return NOT;
        }
        for (int time = 0; time < n; time++) {
            s = earlier.pop();
        }
        return earlier.size();
    }

    int write(int j, int k, int v) {
        if (!has(j)) {
            return UNKNOWN;
        }
        if (k < 0 || k > 99) {
            return OUTSIDE;
        }
        if (book.size() == 20) {
            return FULL;
        }
        book.add(new Entry(j, k, v));
        return book.size();
    }

    int tear() {
        int had = book.size();
        book.clear();
        return had;
    }

    int seed(int v) {
        if (v < 0) {
            return OUTSIDE;
        }
        int was = (int) seed;
        seed = v;
        return was;
    }

    int keep(int i) {
        if (i < 0 || i > 1) {
            return UNKNOWN;
        }
        images[i] = new Kept(s.copy(), seed);
        earlier.clear();
        return 1;
    }

    int goBack(int i) {
        if (i < 0 || i > 1) {
            return UNKNOWN;
        }
        if (images[i] == null) {
            return NOT;
        }
        s = images[i].state.copy();
        seed = images[i].seed;
        earlier.clear();
        return 1;
    }
}
