/**
 * A few whole equations in as many unknowns, solved exactly, modulo a prime, and by digits of the
 * prime. The promises are told in DOC.md; words in capitals are that document's.
 *
 * <p>All rows that a call works in are made once, with the object: a call makes no object at all.
 */
public final class LiftedSystems {
    public static final int NONE = -1, PLUS = 1000000000, UNKNOWN = -1000000001, OUTSIDE = -1000000002, NOT = -1000000003, FULL = -1000000004;

    private static final int MOST_ROWS = 4;
    /** Where THE SIDE stands in a row, whatever N is: so a row is one run of numbers. */
    private static final int SIDE = MOST_ROWS;
    private static final int WIDTH = MOST_ROWS + 1;
    private static final int FIRST_N = 2;
    private static final int TABLE_BOUND = 9;
    private static final int SIDE_BOUND = 99;
    private static final int MIX_BOUND = 3;
    private static final int SHOWN = 100;

    private static final int[] PRIMES = {
        2, 3, 5, 7, 11, 13, 17, 19, 23, 29, 31, 37, 41, 43, 47, 53, 59, 61, 67, 71, 73, 79, 83, 89, 97
    };
    private static final int FIRST_PRIME = 3;

    private static final int DIGITS = 100;
    private static final long GREATEST_POWER = 2000000000000000000L;
    private static final long GUESS_SHOWN = 4000000000L;
    private static final long CUT_SHOWN = 3000000000L;

    private static final int MOST_DRAWN = 12;
    private static final int MOST_UNDONE = 16;
    private static final int MOST_WRITTEN = 20;

    private final Equations now = new Equations();
    private final Clearing clearing = new Clearing();
    private final Residues residues = new Residues();
    private final Lifting lifting = new Lifting();
    private final Guess guessed = new Guess();
    private final Walk walk = new Walk();
    private final History history = new History();
    private final Book book = new Book();
    private final Draws draws = new Draws();
    private final Image firstImage = new Image();
    private final Image secondImage = new Image();

    public LiftedSystems() {
    }

    // ---- the table

    public int told(int what) {
        switch (what) {
            case 0: return now.n;
            case 1: return now.p();
            case 2: case 3: case 4: case 5: case 6: case 7: case 9: return toldOfTable(what);
            case 8: case 10: case 11: return toldByPrime(what);
            case 12: case 13: case 14: return toldOfGuesses(what);
            case 15: return book.count;
            case 16: return firstWrong();
            case 17: return history.count;
            default: return OUTSIDE;
        }
    }

    public int at(int i, int j) {
        if (!now.has(i) || j < 0 || j > now.n) {
            return UNKNOWN;
        }
        return now.number(i, j == now.n ? SIDE : j) + SHOWN;
    }

    public int cleared(int r, int j, int what) {
        clearing.clear(now);
        if (r < 0 || r >= clearing.rank || !now.has(j)) {
            return UNKNOWN;
        }
        if (isNeitherPart(what)) {
            return OUTSIDE;
        }
        return shownPart(clearing.above(r, j), clearing.below(r, j), what);
    }

    public int solution(int j, int what) {
        if (!now.has(j)) {
            return UNKNOWN;
        }
        if (isNeitherPart(what)) {
            return OUTSIDE;
        }
        clearing.clear(now);
        if (!clearing.fitsSide()) {
            return NONE;
        }
        return shownPart(clearing.solutionAbove(j), clearing.solutionBelow(j), what);
    }

    public int nothing(int j) {
        if (!now.has(j)) {
            return UNKNOWN;
        }
        clearing.clear(now);
        if (clearing.rank == now.n) {
            return NONE;
        }
        return (int) clearing.vanishing(j) + PLUS;
    }

    // ---- by the prime

    public int back(int i, int j) {
        if (!now.has(i) || !now.has(j)) {
            return UNKNOWN;
        }
        if (primeIsBad()) {
            return NOT;
        }
        return residues.inverse(i, j);
    }

    public int digit(int j, int k) {
        if (!now.has(j)) {
            return UNKNOWN;
        }
        if (isNoDigit(k)) {
            return OUTSIDE;
        }
        if (primeIsBad()) {
            return NOT;
        }
        lift(k + 1);
        return lifting.digits[j];
    }

    public int rest(int i, int k) {
        if (!now.has(i)) {
            return UNKNOWN;
        }
        if (k < 0 || k > DIGITS) {
            return OUTSIDE;
        }
        if (primeIsBad()) {
            return NOT;
        }
        lift(k);
        return lifting.rests[i] + PLUS;
    }

    public long guess(int j, int k, int what) {
        if (!now.has(j)) {
            return UNKNOWN;
        }
        long power = powerForGuess(now.p(), k);
        if (isNeitherPart(what) || power == NONE) {
            return OUTSIDE;
        }
        if (primeIsBad()) {
            return NOT;
        }
        lift(k);
        guessed.seek(lifting.made[j], power, now.p());
        if (!guessed.found) {
            return NONE;
        }
        return what == 0 ? guessed.above + GUESS_SHOWN : guessed.below;
    }

    // ---- near

    public long near(int j) {
        int refusal = whyNoValue(j);
        return refusal != 0 ? refusal : bitsOfDouble(clearing.nearest(j));
    }

    public long shortly(int j) {
        int refusal = whyNoValue(j);
        return refusal != 0 ? refusal : bitsOfFloat((float) clearing.nearest(j));
    }

    public long cut(int j) {
        int refusal = whyNoValue(j);
        if (refusal != 0) {
            return refusal;
        }
        float thousandfold = (float) clearing.nearest(j) * 1000f;
        return (int) thousandfold + CUT_SHOWN;
    }

    // ---- deeds

    public int size(int n) {
        if (n < 1 || n > MOST_ROWS) {
            return OUTSIDE;
        }
        history.remember(now);
        int was = now.n;
        now.begin(n);
        return was;
    }

    public int put(int i, int j, int v) {
        if (!now.has(i) || !now.has(j)) {
            return UNKNOWN;
        }
        if (v < -TABLE_BOUND || v > TABLE_BOUND) {
            return OUTSIDE;
        }
        return change(i, j, v);
    }

    public int side(int i, int v) {
        if (!now.has(i)) {
            return UNKNOWN;
        }
        if (v < -SIDE_BOUND || v > SIDE_BOUND) {
            return OUTSIDE;
        }
        return change(i, SIDE, v);
    }

    public int swap(int i, int j) {
        if (areNotTwoRows(i, j)) {
            return UNKNOWN;
        }
        history.remember(now);
        now.exchange(i, j);
        return 1;
    }

    public int mix(int i, int j, int t) {
        if (areNotTwoRows(i, j)) {
            return UNKNOWN;
        }
        if (t < -MIX_BOUND || t > MIX_BOUND) {
            return OUTSIDE;
        }
        if (!now.canAdd(i, j, t)) {
            return FULL;
        }
        history.remember(now);
        now.add(i, j, t);
        return 1;
    }

    public int turn() {
        history.remember(now);
        now.transpose();
        return rank();
    }

    public int prime(int k) {
        if (k < 0 || k >= PRIMES.length) {
            return OUTSIDE;
        }
        history.remember(now);
        now.primeNumber = k;
        return now.p();
    }

    public int drift(int n) {
        if (n < 1 || n > MOST_DRAWN) {
            return OUTSIDE;
        }
        for (int time = 0; time < n; time++) {
            changeByDraws();
        }
        return rank();
    }

    public int undo(int n) {
        if (n < 1 || n > MOST_UNDONE) {
            return OUTSIDE;
        }
        if (n > history.count) {
            return NOT;
        }
        history.bringBack(now, n);
        return history.count;
    }

    // ---- the book

    public int write(int j, int k, int v) {
        if (!now.has(j)) {
            return UNKNOWN;
        }
        if (isNoDigit(k)) {
            return OUTSIDE;
        }
        if (book.count >= MOST_WRITTEN) {
            return FULL;
        }
        book.append(j, k, v);
        return book.count;
    }

    public int tear() {
        int had = book.count;
        book.count = 0;
        return had;
    }

    // ---- images

    public int seed(int v) {
        if (v < 0) {
            return OUTSIDE;
        }
        int was = (int) draws.state;
        draws.state = v;
        return was;
    }

    public int keep(int i) {
        if (isNoImage(i)) {
            return UNKNOWN;
        }
        imageOf(i).take(now, draws);
        history.count = 0;
        return 1;
    }

    public int goBack(int i) {
        if (isNoImage(i)) {
            return UNKNOWN;
        }
        Image image = imageOf(i);
        if (!image.taken) {
            return NOT;
        }
        image.give(now, draws);
        history.count = 0;
        return 1;
    }

    // ---- what the calls share

    private int toldOfTable(int what) {
        clearing.clear(now);
        switch (what) {
            case 2: return (int) clearing.determinant() + PLUS;
            case 3: return clearing.rank;
            case 4: return clearing.wideRank();
            case 5: return clearing.kind();
            case 6: return clearing.leading();
            case 7: return clearing.broken();
            default: return badPrimes(clearing.determinant());
        }
    }

    private int toldByPrime(int what) {
        boolean bad = primeIsBad();
        switch (what) {
            case 8: return bad ? 1 : 0;
            case 10: return residues.rank;
            default: return residues.ways();
        }
    }

    private int toldOfGuesses(int what) {
        if (primeIsBad()) {
            return NONE;
        }
        int sure = sure();
        if (what == 12) {
            return sure;
        }
        clearing.clear(now);
        walk.go(now, residues, clearing, sure);
        return what == 13 ? walk.early : walk.tooSoon;
    }

    private int sure() {
        long product = 2;
        for (int i = 0; i < now.n; i++) {
            product *= now.squares(i);
        }
        int k = 0;
        // The product is below 2.2e16 and the power was no more than it: times 97 it is still a long.
        for (long power = 1; power <= product && k < DIGITS; power *= now.p()) {
            k++;
        }
        return k;
    }

    private int rank() {
        clearing.clear(now);
        return clearing.rank;
    }

    /** 0: there is a SOLUTION, X j in it, and the table is cleared. */
    private int whyNoValue(int j) {
        if (!now.has(j)) {
            return UNKNOWN;
        }
        clearing.clear(now);
        return clearing.fitsSide() ? 0 : NONE;
    }

    private boolean primeIsBad() {
        residues.clear(now);
        return residues.rank < now.n;
    }

    /** Only where the residues are those of what is so, and p is not BAD. */
    private void lift(int steps) {
        lifting.begin(now);
        for (int k = 0; k < steps && k < DIGITS; k++) {
            lifting.step(now, residues);
        }
    }

    private int firstWrong() {
        if (book.count == 0) {
            return NONE;
        }
        if (primeIsBad()) {
            return 0;
        }
        int first = book.firstBeyond(now.n);
        lifting.begin(now);
        for (int k = 0; k < DIGITS; k++) {
            lifting.step(now, residues);
            first = book.firstOtherwise(k, lifting.digits, first);
        }
        return first == book.count ? NONE : first;
    }

    private int change(int i, int j, int v) {
        history.remember(now);
        int was = now.number(i, j);
        now.set(i, j, v);
        return was + SHOWN;
    }

    private void changeByDraws() {
        int i = draws.next(now.n);
        int j = draws.next(now.n + 1);
        int v = draws.next(2 * TABLE_BOUND + 1);
        if (j == now.n) {
            change(i, SIDE, 11 * v - SIDE_BOUND);
        } else {
            change(i, j, v - TABLE_BOUND);
        }
    }

    private boolean areNotTwoRows(int i, int j) {
        return !now.has(i) || !now.has(j) || i == j;
    }

    private Image imageOf(int i) {
        return i == 0 ? firstImage : secondImage;
    }

    private static boolean isNoImage(int i) {
        return i != 0 && i != 1;
    }

    private static boolean isNeitherPart(int what) {
        return what != 0 && what != 1;
    }

    private static boolean isNoDigit(int k) {
        return k < 0 || k >= DIGITS;
    }

    private static int shownPart(long above, long below, int what) {
        return what == 0 ? (int) above + PLUS : (int) below;
    }

    private static int badPrimes(long determinant) {
        int bad = 0;
        for (int p : PRIMES) {
            if (leftOver(determinant, p) == 0) {
                bad++;
            }
        }
        return bad;
    }

    /** p to the k, or NONE where there is no GUESS by so many digits. */
    private static long powerForGuess(int p, int k) {
        if (k < 1) {
            return NONE;
        }
        long power = 1;
        for (int i = 0; i < k; i++) {
            if (power > quotient(GREATEST_POWER, p)) {
                return NONE;
            }
            power *= p;
        }
        return power;
    }

    private static long bitsOfDouble(double value) {
        long bits = bitsOfSize(value < 0 ? 0 - value : value, 52, 1023);
        return value < 0 ? bits | 1L << 63 : bits;
    }

    private static long bitsOfFloat(float value) {
        long bits = bitsOfSize(value < 0 ? 0 - value : value, 23, 127);
        return value < 0 ? bits | 1L << 31 : bits;
    }

    /**
     * Of 0 and of what is neither tiny nor huge, as all solutions are. Doubling is exact; when the
     * first bit has come to its place, all the others are whole.
     */
    private static long bitsOfSize(double size, int places, int bias) {
        if (size == 0) {
            return 0;
        }
        long first = 1L << places;
        double doubled = size;
        long exponent = bias + places;
        for (int step = 0; step < places + bias && doubled < first; step++) {
            doubled *= 2;
            exponent--;
        }
        return (exponent << places) + ((long) doubled - first);
    }

    // Divisors are never 0 where these are asked; the tests keep the machine from throwing all the same.

    private static long quotient(long a, long b) {
        return b == 0 ? 0 : a / b;
    }

    private static int leftOver(long a, int p) {
        if (p == 0) {
            return 0;
        }
        long left = a % p;
        return (int) (left < 0 ? left + p : left);
    }

    private static long gcd(long a, long b) {
        long x = Math.abs(a);
        long y = Math.abs(b);
        for (int step = 0; step < 200 && y != 0; step++) {
            long z = x % y;
            x = y;
            y = z;
        }
        return x;
    }

    /** N, THE TABLE, THE SIDE and THE PRIME: what the deeds change. Numbers beyond N are all 0. */
    private static final class Equations {
        /** What one takes in a store: N, the prime's number, the rows. */
        static final int ROOM = 2 + MOST_ROWS * WIDTH;

        int n;
        int primeNumber = FIRST_PRIME;
        final int[] numbers = new int[MOST_ROWS * WIDTH];

        Equations() {
            begin(FIRST_N);
        }

        void begin(int newN) {
            n = newN;
            for (int i = 0; i < MOST_ROWS; i++) {
                for (int j = 0; j < WIDTH; j++) {
                    set(i, j, i == j && i < n ? 1 : 0);
                }
            }
        }

        /** Of a ROW and of a COLUMN alike: there are N of both. */
        boolean has(int index) {
            return index >= 0 && index < n;
        }

        int p() {
            return primeNumber >= 0 && primeNumber < PRIMES.length ? PRIMES[primeNumber] : 2;
        }

        int number(int i, int j) {
            return numbers[i * WIDTH + j];
        }

        void set(int i, int j, int v) {
            numbers[i * WIDTH + j] = v;
        }

        long squares(int i) {
            long sum = 0;
            for (int j = 0; j < WIDTH; j++) {
                sum += number(i, j) * number(i, j);
            }
            return sum;
        }

        void exchange(int i, int k) {
            for (int j = 0; j < WIDTH; j++) {
                int was = number(i, j);
                set(i, j, number(k, j));
                set(k, j, was);
            }
        }

        boolean canAdd(int i, int k, int t) {
            for (int j = 0; j < WIDTH; j++) {
                int bound = j == SIDE ? SIDE_BOUND : TABLE_BOUND;
                if (Math.abs(number(i, j) + t * number(k, j)) > bound) {
                    return false;
                }
            }
            return true;
        }

        void add(int i, int k, int t) {
            for (int j = 0; j < WIDTH; j++) {
                set(i, j, number(i, j) + t * number(k, j));
            }
        }

        void transpose() {
            for (int i = 0; i < n; i++) {
                for (int j = 0; j < i; j++) {
                    int was = number(i, j);
                    set(i, j, number(j, i));
                    set(j, i, was);
                }
            }
        }

        void writeTo(int[] store, int from) {
            store[from] = n;
            store[from + 1] = primeNumber;
            System.arraycopy(numbers, 0, store, from + 2, numbers.length);
        }

        void readFrom(int[] store, int from) {
            n = store[from];
            primeNumber = store[from + 1];
            System.arraycopy(store, from + 2, numbers, 0, numbers.length);
        }
    }

    /** Rows with THE TABLE and THE SIDE ahead, in which LEADING COLUMNS are cleared one by one. */
    private abstract static class Rows {
        int n;
        int rank;
        int exchanges;
        final long[][] rows;
        private final int width;

        Rows(int width) {
            this.width = width;
            rows = new long[MOST_ROWS][width];
        }

        /** Clears COLUMN j out of all rows but that at the rank, where it is not 0. */
        abstract void clearColumn(int j);

        void clearColumns() {
            rank = 0;
            exchanges = 0;
            for (int j = 0; j < n; j++) {
                if (raise(j)) {
                    clearColumn(j);
                    rank++;
                }
            }
        }

        /** Puts a row in which COLUMN j is not 0 at the rank; false: there is none, j is not LEADING. */
        private boolean raise(int j) {
            int found = rank;
            while (found < n && rows[found][j] == 0) {
                found++;
            }
            if (found >= n) {
                return false;
            }
            if (found > rank) {
                exchangeRows(found, rank);
                exchanges++;
            }
            return true;
        }

        private void exchangeRows(int i, int k) {
            for (int j = 0; j < width; j++) {
                long was = rows[i][j];
                rows[i][j] = rows[k][j];
                rows[k][j] = was;
            }
        }

        /** Rows of zeros have a 0 at THE SIDE, too. */
        boolean fitsSide() {
            for (int i = rank; i < n; i++) {
                if (rows[i][SIDE] != 0) {
                    return false;
                }
            }
            return true;
        }
    }

    /**
     * Cleared without fractions: row r over the scale is row r of CLEARED, and all numbers are
     * determinants of parts of THE TABLE and THE SIDE, so that they stay small.
     */
    private static final class Clearing extends Rows {
        long scale;
        final int[] leads = new int[MOST_ROWS];

        Clearing() {
            super(WIDTH);
        }

        void clear(Equations equations) {
            n = equations.n;
            scale = 1;
            for (int i = 0; i < MOST_ROWS; i++) {
                for (int j = 0; j < WIDTH; j++) {
                    rows[i][j] = equations.number(i, j);
                }
            }
            clearColumns();
        }

        void clearColumn(int j) {
            for (int i = 0; i < n; i++) {
                if (i != rank) {
                    clearRow(i, j);
                }
            }
            scale = rows[rank][j];
            leads[rank] = j;
        }

        /** The division by the scale before leaves nothing over (Bareiss). */
        private void clearRow(int i, int lead) {
            long pivot = rows[rank][lead];
            long factor = rows[i][lead];
            for (int j = 0; j < WIDTH; j++) {
                rows[i][j] = quotient(pivot * rows[i][j] - factor * rows[rank][j], scale);
            }
        }

        long determinant() {
            if (rank < n) {
                return 0;
            }
            return exchanges % 2 == 0 ? scale : -scale;
        }

        int wideRank() {
            return fitsSide() ? rank : rank + 1;
        }

        int kind() {
            if (!fitsSide()) {
                return 0;
            }
            return rank == n ? 1 : 2;
        }

        int leading() {
            int set = 0;
            for (int r = 0; r < rank; r++) {
                set |= 1 << leads[r];
            }
            return set;
        }

        int broken() {
            int count = 0;
            for (int r = 0; r < rank; r++) {
                if (isBroken(r)) {
                    count++;
                }
            }
            return count;
        }

        private boolean isBroken(int r) {
            for (int j = 0; j < n; j++) {
                if (below(r, j) != 1) {
                    return true;
                }
            }
            return false;
        }

        long above(int r, int j) {
            long top = scale < 0 ? -rows[r][j] : rows[r][j];
            return quotient(top, gcd(rows[r][j], scale));
        }

        long below(int r, int j) {
            return quotient(Math.abs(scale), gcd(rows[r][j], scale));
        }

        /** NONE: COLUMN j is not LEADING. */
        private int rowLedBy(int j) {
            for (int r = 0; r < rank; r++) {
                if (leads[r] == j) {
                    return r;
                }
            }
            return NONE;
        }

        long solutionAbove(int j) {
            int r = rowLedBy(j);
            return r == NONE ? 0 : above(r, SIDE);
        }

        long solutionBelow(int j) {
            int r = rowLedBy(j);
            return r == NONE ? 1 : below(r, SIDE);
        }

        /** Both parts are exact as doubles, so that one division rounds but once. */
        double nearest(int j) {
            double below = (double) solutionBelow(j);
            return below > 0 ? (double) solutionAbove(j) / below : 0;
        }

        /** Z j of NOTHING, where RANK is less than N. */
        long vanishing(int j) {
            int free = 0;
            while (free < rank && leads[free] == free) {
                free++;
            }
            long whole = 1;
            for (int r = 0; r < rank; r++) {
                whole *= quotient(below(r, free), gcd(whole, below(r, free)));
            }
            if (j == free) {
                return whole;
            }
            int r = rowLedBy(j);
            return r == NONE ? 0 : -above(r, free) * quotient(whole, below(r, free));
        }
    }

    /** Cleared in LEFT OVERS by p, with the table of ones behind THE SIDE: this becomes BACK. */
    private static final class Residues extends Rows {
        private static final int ALL = WIDTH + MOST_ROWS;

        int p;

        Residues() {
            super(ALL);
        }

        void clear(Equations equations) {
            n = equations.n;
            p = equations.p();
            for (int i = 0; i < MOST_ROWS; i++) {
                for (int j = 0; j < WIDTH; j++) {
                    rows[i][j] = leftOver(equations.number(i, j), p);
                }
                for (int j = WIDTH; j < ALL; j++) {
                    rows[i][j] = j - WIDTH == i ? 1 : 0;
                }
            }
            clearColumns();
        }

        void clearColumn(int j) {
            int toOne = oneOver(rows[rank][j]);
            for (int c = 0; c < ALL; c++) {
                rows[rank][c] = leftOver(rows[rank][c] * toOne, p);
            }
            for (int i = 0; i < n; i++) {
                long factor = i == rank ? 0 : rows[i][j];
                for (int c = 0; c < ALL; c++) {
                    rows[i][c] = leftOver(rows[i][c] - factor * rows[rank][c], p);
                }
            }
        }

        private int oneOver(long v) {
            for (int w = 1; w < p; w++) {
                if (leftOver(v * w, p) == 1) {
                    return w;
                }
            }
            return 0;
        }

        int ways() {
            if (!fitsSide()) {
                return 0;
            }
            int ways = 1;
            for (int free = rank; free < n; free++) {
                ways *= p;
            }
            return ways;
        }

        /** C i j of BACK, where p is not BAD. */
        int inverse(int i, int j) {
            return (int) rows[i][WIDTH + j];
        }
    }

    /** The DIGITS of all UNKNOWNS, one behind another, each got from the RESTS behind those ahead. */
    private static final class Lifting {
        final int[] rests = new int[MOST_ROWS];
        final int[] digits = new int[MOST_ROWS];
        /** What the digits so far make; true as long as the power is one for a GUESS. */
        final long[] made = new long[MOST_ROWS];
        long power;

        void begin(Equations equations) {
            power = 1;
            for (int i = 0; i < MOST_ROWS; i++) {
                rests[i] = equations.number(i, SIDE);
                made[i] = 0;
            }
        }

        void step(Equations equations, Residues residues) {
            int n = equations.n;
            int p = equations.p();
            for (int j = 0; j < n; j++) {
                int sum = 0;
                for (int i = 0; i < n; i++) {
                    sum += residues.inverse(j, i) * rests[i];
                }
                digits[j] = leftOver(sum, p);
                made[j] += digits[j] * power;
            }
            for (int i = 0; i < n; i++) {
                int left = rests[i];
                for (int j = 0; j < n; j++) {
                    left -= equations.number(i, j) * digits[j];
                }
                rests[i] = (int) quotient(left, p);
            }
            power *= p;
        }
    }

    /** GUESS: the one fraction small enough that leaves over what the digits make. */
    private static final class Guess {
        boolean found;
        long above;
        long below;

        /**
         * Euclid's remainders of the power and what is made, with their factors: the first remainder
         * within the bound is the only one that can do, as 2 T T is less than the power. A factor that
         * p does not divide has no divisor in common with its remainder.
         */
        void seek(long made, long power, int p) {
            long bound = boundOf(power);
            long before = power;
            long remainder = made;
            long factorBefore = 0;
            long factor = 1;
            for (int step = 0; step < 200 && remainder > bound; step++) {
                long times = quotient(before, remainder);
                long next = before - times * remainder;
                before = remainder;
                remainder = next;
                long nextFactor = factorBefore - times * factor;
                factorBefore = factor;
                factor = nextFactor;
            }
            above = factor < 0 ? -remainder : remainder;
            below = Math.abs(factor);
            found = below <= bound && leftOver(below, p) != 0;
        }

        /** T, bit by bit: it is below 2 to the 30 as the power is no more than GREATEST_POWER. */
        private static long boundOf(long power) {
            long bound = 0;
            for (int bit = 29; bit >= 0; bit--) {
                long more = bound + (1L << bit);
                if (2 * more * more < power) {
                    bound = more;
                }
            }
            return bound;
        }

        boolean is(long otherAbove, long otherBelow) {
            return found && above == otherAbove && below == otherBelow;
        }
    }

    /** Guesses by ever more digits, up to the first that are all right: EARLY and TOO SOON. */
    private static final class Walk {
        int early;
        int tooSoon;
        private boolean allFound;
        private boolean allRight;
        private final Lifting lifting = new Lifting();
        private final Guess guess = new Guess();

        void go(Equations equations, Residues residues, Clearing clearing, int sure) {
            early = NONE;
            tooSoon = 0;
            lifting.begin(equations);
            for (int k = 1; k <= sure && early == NONE; k++) {
                lifting.step(equations, residues);
                guessAll(equations, clearing);
                if (allRight) {
                    early = k;
                } else if (allFound) {
                    tooSoon++;
                }
            }
        }

        private void guessAll(Equations equations, Clearing clearing) {
            allFound = true;
            allRight = true;
            for (int j = 0; j < equations.n && allFound; j++) {
                guess.seek(lifting.made[j], lifting.power, equations.p());
                allFound = guess.found;
                allRight = allRight && guess.is(clearing.solutionAbove(j), clearing.solutionBelow(j));
            }
        }
    }

    /** What was so ahead of the latest deeds, in a ring: the oldest gives way. */
    private static final class History {
        int count;
        private int next;
        private final int[] store = new int[MOST_UNDONE * Equations.ROOM];

        void remember(Equations equations) {
            equations.writeTo(store, next * Equations.ROOM);
            next = (next + 1) % MOST_UNDONE;
            count = Math.min(count + 1, MOST_UNDONE);
        }

        void bringBack(Equations equations, int n) {
            next = Math.floorMod(next - n, MOST_UNDONE);
            count -= n;
            equations.readFrom(store, next * Equations.ROOM);
        }
    }

    /** THE BOOK: entry e tells that digit places[e] of X unknowns[e] is values[e]. */
    private static final class Book {
        int count;
        private final int[] unknowns = new int[MOST_WRITTEN];
        private final int[] places = new int[MOST_WRITTEN];
        private final int[] values = new int[MOST_WRITTEN];

        void append(int j, int k, int v) {
            unknowns[count] = j;
            places[count] = k;
            values[count] = v;
            count++;
        }

        /** The first entry of an X that there is not, or the count. */
        int firstBeyond(int n) {
            int e = 0;
            while (e < count && unknowns[e] < n) {
                e++;
            }
            return e;
        }

        /** The first entry ahead of the limit by which a digit k is otherwise, or the limit. */
        int firstOtherwise(int k, int[] digits, int limit) {
            for (int e = 0; e < limit; e++) {
                if (places[e] == k && digits[unknowns[e]] != values[e]) {
                    return e;
                }
            }
            return limit;
        }
    }

    /** THE SEED and what is drawn from it. */
    private static final class Draws {
        long state;

        int next(int n) {
            state = (state * 1103515245L + 12345L) & 0x7fffffffL;
            return leftOver(state / 65536, n);
        }
    }

    private static final class Image {
        boolean taken;
        private long seed;
        private final int[] store = new int[Equations.ROOM];

        void take(Equations equations, Draws draws) {
            equations.writeTo(store, 0);
            seed = draws.state;
            taken = true;
        }

        void give(Equations equations, Draws draws) {
            equations.readFrom(store, 0);
            draws.state = seed;
        }
    }
}
