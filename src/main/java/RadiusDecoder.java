/**
 * Codes of polynomials over small fields: encoding in two views, decoding within half the distance,
 * and listing within a greater radius.
 *
 * <p>All rows are made once, by the constructor; no later call makes an object.
 */
public final class RadiusDecoder {
    public static final int BAD = -1;
    public static final int NONE = -2;
    public static final int MANY = -3;
    public static final int LOOSE = -4;

    private static final int FIRST_POLYNOMIAL = 11;
    private static final int LEAST_DEGREE = 3;
    private static final int MOST_DEGREE = 5;
    private static final int MOST_ELEMENTS = 1 << MOST_DEGREE;
    private static final int MOST_PLACES = 20;
    private static final int MESSAGE_BITS = 12;
    private static final int MOST_DIMENSION = MESSAGE_BITS / LEAST_DEGREE;
    private static final int MOST_TIMES = 3;
    private static final int MOST_CONDITIONS = MOST_PLACES * MOST_TIMES * (MOST_TIMES + 1) / 2;

    /**
     * The powers of y that a polynomial of a weight up to the bound can have: the bound is at most
     * 15 for k = 2, and the bound divided by k - 1 is less for a greater k. A list has fewer
     * codewords than that, as y - f divides such a polynomial for each of them.
     */
    private static final int MOST_POWERS = 16;

    private final Field numbers;
    private final Code scheme;
    private final int[] message;
    private final Word received;
    private final Search search;
    private final Finds nearest;
    private final Finds within;
    private final int[] register;
    private final Passing passing;

    public RadiusDecoder() {
        numbers = new Field();
        scheme = new Code(numbers);
        message = new int[MOST_DIMENSION];
        received = new Word();
        search = new Search(numbers, scheme, received);
        nearest = new Finds(scheme, 1);
        within = new Finds(scheme, MOST_POWERS);
        register = new int[MOST_PLACES];
        passing = new Passing(numbers, scheme, received);
        beginField(FIRST_POLYNOMIAL);
    }

    public int field(int p) {
        if (p < 1 << LEAST_DEGREE || p >= 2 << MOST_DEGREE) {
            return BAD;
        }
        if (!Field.isPrimitive(p)) {
            return LOOSE;
        }
        beginField(p);
        return numbers.degree;
    }

    public int times(int a, int b) {
        return numbers.has(a) && numbers.has(b) ? numbers.product(a, b) : BAD;
    }

    public int over(int a, int b) {
        if (!numbers.has(a) || !numbers.has(b)) {
            return BAD;
        }
        return b == 0 ? NONE : numbers.quotient(a, b);
    }

    public int log(int a) {
        if (!numbers.has(a)) {
            return BAD;
        }
        return a == 0 ? NONE : numbers.logs[a];
    }

    public boolean code(int kind, int n, int k) {
        if (kind < 0 || kind > 1 || n > MOST_PLACES || n >= numbers.size) {
            return false;
        }
        if (k < 2 || k >= n || numbers.degree * k > MESSAGE_BITS) {
            return false;
        }
        beginCode(kind, n, k);
        return true;
    }

    public boolean tell(int i, int v) {
        if (!isInMessage(i) || !numbers.has(v)) {
            return false;
        }
        message[i] = v;
        return true;
    }

    public int encode(boolean systematically) {
        int[][] rows = systematically ? scheme.trailing : scheme.plain;
        int others = 0;
        for (int i = 0; i < scheme.length; i++) {
            int v = scheme.mixed(rows, message, i);
            received.put(i, v);
            if (v != 0) {
                others++;
            }
        }
        return others;
    }

    public boolean receive(int i, int v) {
        if (!isPlace(i) || !numbers.has(v)) {
            return false;
        }
        received.put(i, v);
        return true;
    }

    public boolean erase(int i) {
        if (!isPlace(i) || received.erased[i]) {
            return false;
        }
        received.strike(i);
        return true;
    }

    public int word(int i) {
        if (!isPlace(i)) {
            return BAD;
        }
        return received.erased[i] ? NONE : received.elements[i];
    }

    public int syndrome(int j) {
        if (j < 0 || j >= scheme.length - scheme.dimension) {
            return BAD;
        }
        int sum = 0;
        for (int i = 0; i < scheme.length; i++) {
            if (!received.erased[i]) {
                int checked = numbers.product(scheme.checks[i], received.elements[i]);
                sum ^= numbers.product(checked, numbers.power(scheme.points[i], j));
            }
        }
        return sum;
    }

    /** One search serves both ways, as the document wants the same found by either. */
    public int decode(boolean byRemainders) {
        if (isErasedTooMuch()) {
            return MANY;
        }
        search.find(half(), nearest);
        if (nearest.count == 0) {
            return NONE;
        }
        locateWrongPlaces();
        return nearest.distances[0];
    }

    public int decoded(int i) {
        if (!isPlace(i)) {
            return BAD;
        }
        return nearest.count == 0 ? NONE : nearest.codewords[0][i];
    }

    public int sent(int i) {
        if (!isInMessage(i)) {
            return BAD;
        }
        return nearest.count == 0 ? NONE : scheme.toldBy(nearest.codewords[0], i);
    }

    public int locator(int i) {
        if (i < 0 || i > scheme.length - scheme.dimension) {
            return BAD;
        }
        return nearest.count == 0 ? NONE : register[i];
    }

    public int list(int s) {
        if (!isTimes(s)) {
            return BAD;
        }
        if (isErasedTooMuch()) {
            return MANY;
        }
        search.find(radiusFor(s), within);
        return within.count;
    }

    public int listed(int c, int i) {
        return within.has(c) && isPlace(i) ? within.codewords[c][i] : BAD;
    }

    public int distance(int c) {
        return within.has(c) ? within.distances[c] : BAD;
    }

    public int radius(int s) {
        if (!isTimes(s)) {
            return BAD;
        }
        return isErasedTooMuch() ? MANY : radiusFor(s);
    }

    public int weight(int s) {
        if (!isTimes(s)) {
            return BAD;
        }
        return isErasedTooMuch() ? MANY : passing.leastWeight(s, boundFor(s));
    }

    private void beginField(int p) {
        numbers.begin(p);
        beginCode(0, Math.min(numbers.size - 1, MOST_PLACES), 2);
    }

    private void beginCode(int kind, int n, int k) {
        scheme.begin(kind, n, k);
        for (int i = 0; i < MOST_DIMENSION; i++) {
            message[i] = 0;
        }
        received.begin(n);
        nearest.count = 0;
        within.count = 0;
    }

    private boolean isPlace(int i) {
        return i >= 0 && i < scheme.length;
    }

    private boolean isInMessage(int i) {
        return i >= 0 && i < scheme.dimension;
    }

    private static boolean isTimes(int s) {
        return s >= 1 && s <= MOST_TIMES;
    }

    private boolean isErasedTooMuch() {
        return received.open < scheme.dimension;
    }

    private int half() {
        return (received.open - scheme.dimension) / 2;
    }

    private int boundFor(int s) {
        int conditions = received.open * s * (s + 1) / 2;
        int pairs = 0;
        // each weight brings at least one pair, so the bound is never above the conditions
        for (int w = 0; w < conditions; w++) {
            pairs += w / (scheme.dimension - 1) + 1;
            if (pairs > conditions) {
                return w;
            }
        }
        return conditions;
    }

    private int radiusFor(int s) {
        return Math.max(half(), received.open - 1 - boundFor(s) / s);
    }

    /** Kept from now on, since the word may change while the codeword stays decoded. */
    private void locateWrongPlaces() {
        for (int i = 0; i < MOST_PLACES; i++) {
            register[i] = 0;
        }
        register[0] = 1;
        for (int p = 0; p < scheme.length; p++) {
            if (!received.erased[p] && received.elements[p] != nearest.codewords[0][p]) {
                for (int i = MOST_PLACES - 1; i > 0; i--) {
                    register[i] ^= numbers.product(scheme.points[p], register[i - 1]);
                }
            }
        }
    }

    /** The field, as tables. */
    private static final class Field {
        private int degree;
        private int size;
        private final int[] powers = new int[MOST_ELEMENTS];
        private final int[] logs = new int[MOST_ELEMENTS];
        private final int[] products = new int[MOST_ELEMENTS * MOST_ELEMENTS];

        static int degreeOf(int p) {
            return p < 16 ? 3 : p < 32 ? 4 : 5;
        }

        static int timesX(int a, int p) {
            int doubled = a << 1;
            return doubled >> degreeOf(p) == 0 ? doubled : doubled ^ p;
        }

        /** If x^last is 1, x has an inverse, so powers can repeat only by coming back to 1. */
        static boolean isPrimitive(int p) {
            int last = (1 << degreeOf(p)) - 1;
            int power = 1;
            for (int e = 1; e < last; e++) {
                power = timesX(power, p);
                if (power == 1) {
                    return false;
                }
            }
            return timesX(power, p) == 1;
        }

        void begin(int p) {
            degree = degreeOf(p);
            size = 1 << degree;
            int power = 1;
            for (int e = 0; e < size - 1; e++) {
                powers[e] = power;
                logs[power] = e;
                power = timesX(power, p);
            }
            // those by 0 are 0 from the start and never written
            for (int a = 1; a < size; a++) {
                for (int b = 1; b < size; b++) {
                    int e = logs[a] + logs[b];
                    products[a << MOST_DEGREE | b] = powers[e < size - 1 ? e : e - size + 1];
                }
            }
        }

        boolean has(int a) {
            return a >= 0 && a < size;
        }

        int product(int a, int b) {
            return products[a << MOST_DEGREE | b];
        }

        /** The caller sees to it that b is not 0. */
        int quotient(int a, int b) {
            if (a == 0) {
                return 0;
            }
            int e = logs[a] - logs[b];
            return powers[e >= 0 ? e : e + size - 1];
        }

        /** Adds factor times the other row to a row; most of the time goes here, so no call per element. */
        void addMultiple(int[] row, int factor, int[] other, int from, int to) {
            int line = factor << MOST_DEGREE;
            for (int t = from; t < to; t++) {
                row[t] ^= products[line | other[t]];
            }
        }

        int power(int a, int e) {
            int result = 1;
            for (int i = 0; i < e; i++) {
                result = product(result, a);
            }
            return result;
        }
    }

    /**
     * The code, as three bases of k rows. A row is a codeword and, behind its n elements, the k
     * elements of the message that plainly becomes it.
     */
    private static final class Code {
        private final Field numbers;
        private int kind;
        private int length;
        private int dimension;
        private final int[] points = new int[MOST_PLACES];
        private final int[] stretches = new int[MOST_PLACES];
        private final int[] checks = new int[MOST_PLACES];
        private final int[] generator = new int[MOST_PLACES];
        private final int[][] plain = new int[MOST_DIMENSION][MOST_PLACES + MOST_DIMENSION];
        private final int[][] leading = new int[MOST_DIMENSION][MOST_PLACES + MOST_DIMENSION];
        private final int[][] trailing = new int[MOST_DIMENSION][MOST_PLACES + MOST_DIMENSION];

        Code(Field numbers) {
            this.numbers = numbers;
        }

        void begin(int newKind, int n, int k) {
            kind = newKind;
            length = n;
            dimension = k;
            for (int i = 0; i < n; i++) {
                points[i] = numbers.powers[i];
            }
            for (int i = 0; i < n; i++) {
                fillFactors(i);
            }
            fillGenerator();
            for (int i = 0; i < k; i++) {
                fillPlainRow(i);
            }
            fillUnitRows(leading, 0);
            fillUnitRows(trailing, n - k);
        }

        private void fillFactors(int i) {
            int apart = 1;
            for (int j = 0; j < length; j++) {
                if (j != i) {
                    apart = numbers.product(apart, points[i] ^ points[j]);
                }
            }
            if (kind == 0) {
                stretches[i] = 1;
                checks[i] = numbers.quotient(1, apart);
            } else {
                stretches[i] = numbers.quotient(1, numbers.product(points[i], apart));
                checks[i] = points[i];
            }
        }

        private void fillGenerator() {
            for (int i = 0; i < length; i++) {
                generator[i] = 0;
            }
            generator[0] = 1;
            for (int r = 1; r <= length - dimension; r++) {
                for (int i = r; i > 0; i--) {
                    generator[i] = generator[i - 1] ^ numbers.product(points[r], generator[i]);
                }
                generator[0] = numbers.product(points[r], generator[0]);
            }
        }

        private void fillPlainRow(int i) {
            for (int p = 0; p < length; p++) {
                if (kind == 0) {
                    plain[i][p] = numbers.power(points[p], i);
                } else {
                    plain[i][p] = p < i ? 0 : generator[p - i];
                }
            }
            for (int j = 0; j < dimension; j++) {
                plain[i][length + j] = i == j ? 1 : 0;
            }
        }

        /**
         * Makes the basis whose row i has 1 at the place from + i and 0 at the other k - 1 places
         * from there. No pivot is 0 here, so rows need no exchange: in the k places the plain rows
         * are powers of different points (kind 0) or a triangle without a 0 on its edge (kind 1).
         */
        private void fillUnitRows(int[][] rows, int from) {
            int width = length + dimension;
            for (int i = 0; i < dimension; i++) {
                System.arraycopy(plain[i], 0, rows[i], 0, width);
            }
            for (int i = 0; i < dimension; i++) {
                int inverse = numbers.quotient(1, rows[i][from + i]);
                for (int p = 0; p < width; p++) {
                    rows[i][p] = numbers.product(inverse, rows[i][p]);
                }
                for (int r = 0; r < dimension; r++) {
                    if (r != i) {
                        numbers.addMultiple(rows[r], rows[r][from + i], rows[i], 0, width);
                    }
                }
            }
        }

        /** Column p of the sum of the rows, each times its factor. */
        int mixed(int[][] rows, int[] factors, int p) {
            int sum = 0;
            for (int i = 0; i < dimension; i++) {
                sum ^= numbers.product(factors[i], rows[i][p]);
            }
            return sum;
        }

        /** A codeword's first k elements are its factors in the leading rows. */
        int toldBy(int[] codeword, int i) {
            return mixed(leading, codeword, length + i);
        }
    }

    /** The word, of which places may be erased. */
    private static final class Word {
        private int open;
        private final int[] elements = new int[MOST_PLACES];
        private final boolean[] erased = new boolean[MOST_PLACES];

        void begin(int n) {
            for (int i = 0; i < MOST_PLACES; i++) {
                elements[i] = 0;
                erased[i] = false;
            }
            open = n;
        }

        void put(int i, int v) {
            if (erased[i]) {
                erased[i] = false;
                open++;
            }
            elements[i] = v;
        }

        void strike(int i) {
            erased[i] = true;
            open--;
        }
    }

    /** Codewords that a search found, with their distances. */
    private static final class Finds {
        private final Code scheme;
        private int count;
        private final int[][] codewords;
        private final int[] distances;

        Finds(Code scheme, int most) {
            this.scheme = scheme;
            codewords = new int[most][MOST_PLACES];
            distances = new int[most];
        }

        boolean has(int c) {
            return c >= 0 && c < count;
        }

        void add(int[] start, int misses) {
            if (count < distances.length) {
                for (int i = 0; i < scheme.length; i++) {
                    codewords[count][i] = scheme.mixed(scheme.leading, start, i);
                }
                distances[count] = misses;
                count++;
            }
        }
    }

    /**
     * Finds all codewords within a distance. A codeword is told by its first k elements, so going
     * through these in order goes through the codewords in the order of the list. For given k - 1 of
     * them every place says by which last one it would agree, so these are counted, not tried.
     */
    private static final class Search {
        private final Field numbers;
        private final Code scheme;
        private final Word received;
        private final int[] start = new int[MOST_DIMENSION];
        private final int[] votes = new int[MOST_ELEMENTS];
        private int sure;

        Search(Field numbers, Code scheme, Word received) {
            this.numbers = numbers;
            this.scheme = scheme;
            this.received = received;
        }

        void find(int limit, Finds finds) {
            finds.count = 0;
            int last = scheme.dimension - 1;
            int heads = 1 << numbers.degree * last;
            for (int head = 0; head < heads; head++) {
                setStart(head, last);
                countVotes(last);
                for (int v = 0; v < numbers.size; v++) {
                    int misses = received.open - sure - votes[v];
                    if (misses <= limit) {
                        start[last] = v;
                        finds.add(start, misses);
                    }
                }
            }
        }

        private void setStart(int head, int last) {
            int rest = head;
            for (int i = last - 1; i >= 0; i--) {
                start[i] = rest & numbers.size - 1;
                rest >>= numbers.degree;
            }
            start[last] = 0;
        }

        private void countVotes(int last) {
            for (int v = 0; v < numbers.size; v++) {
                votes[v] = 0;
            }
            sure = 0;
            for (int p = 0; p < scheme.length; p++) {
                if (!received.erased[p]) {
                    int gap = received.elements[p] ^ scheme.mixed(scheme.leading, start, p);
                    int pull = scheme.leading[last][p];
                    if (pull != 0) {
                        votes[numbers.quotient(gap, pull)]++;
                    } else if (gap == 0) {
                        sure++;
                    }
                }
            }
        }
    }

    /**
     * Finds the least weight of a polynomial in two that passes all places that are not erased.
     *
     * <p>It starts with y^0, y^1, .. and makes these meet one condition after the other (Koetter's
     * way): of those that fail it the one with the least leading term is taken from the others, so
     * that their leading terms stay, and is then multiplied by x - a(i). Only weights are asked for,
     * so no coefficients are held, but of each polynomial its leading weight and its VALUES: the
     * coefficients of x^u y^v, u + v less than s, in q(x + a(i), y + v(i)), which must become 0.
     */
    private static final class Passing {
        private final Field numbers;
        private final Code scheme;
        private final Word received;
        private int places;
        private int block;
        private int powers;
        private final int[] xs = new int[MOST_PLACES];
        private final int[] ys = new int[MOST_PLACES];
        private final boolean[] withoutX = new boolean[MOST_CONDITIONS];
        private final int[] weights = new int[MOST_POWERS];
        private final int[][] values = new int[MOST_POWERS][MOST_CONDITIONS];

        Passing(Field numbers, Code scheme, Word received) {
            this.numbers = numbers;
            this.scheme = scheme;
            this.received = received;
        }

        int leastWeight(int s, int bound) {
            setPlaces();
            block = s * (s + 1) / 2;
            powers = Math.min(bound / (scheme.dimension - 1) + 1, MOST_POWERS);
            for (int j = 0; j < powers; j++) {
                weights[j] = j * (scheme.dimension - 1);
                for (int o = 0; o < places; o++) {
                    setValues(j, o, s);
                }
            }
            for (int c = 0; c < places * block; c++) {
                meet(c, c / block);
            }
            int least = bound;
            for (int j = 0; j < powers; j++) {
                least = Math.min(least, weights[j]);
            }
            return least;
        }

        private void setPlaces() {
            places = 0;
            for (int i = 0; i < scheme.length; i++) {
                if (!received.erased[i]) {
                    xs[places] = scheme.points[i];
                    ys[places] = numbers.quotient(received.elements[i], scheme.stretches[i]);
                    places++;
                }
            }
        }

        /** Values of one v stand side by side, u rising, which timesLinear and meet rely on. */
        private void setValues(int j, int o, int s) {
            int t = o * block;
            for (int v = 0; v < s; v++) {
                for (int u = 0; u < s - v; u++) {
                    // in these fields a binomial counts by its last bit: 1 when v's bits are in j
                    boolean some = u == 0 && (v & ~j) == 0;
                    values[j][t] = some ? numbers.power(ys[o], j - v) : 0;
                    withoutX[t] = u == 0;
                    t++;
                }
            }
        }

        private void meet(int c, int o) {
            int least = failingLeast(c);
            if (least < 0) {
                return;
            }
            int[] failing = values[least];
            for (int j = 0; j < powers; j++) {
                if (j != least && values[j][c] != 0) {
                    int factor = numbers.quotient(values[j][c], failing[c]);
                    numbers.addMultiple(values[j], factor, failing, c, places * block);
                }
            }
            timesLinear(failing, o);
            weights[least]++;
        }

        /** Of two of the same weight the one with the lower power of y leads with the lesser term. */
        private int failingLeast(int c) {
            int least = -1;
            for (int j = 0; j < powers; j++) {
                if (values[j][c] != 0 && (least < 0 || weights[j] < weights[least])) {
                    least = j;
                }
            }
            return least;
        }

        /** Conditions met stay met: at place o each value becomes the one before it, with a lesser u. */
        private void timesLinear(int[] row, int o) {
            for (int other = o; other < places; other++) {
                int gap = xs[other] ^ xs[o];
                for (int t = (other + 1) * block - 1; t >= other * block; t--) {
                    int lower = withoutX[t] ? 0 : row[t - 1];
                    row[t] = lower ^ numbers.product(gap, row[t]);
                }
            }
        }
    }
}
