import java.util.ArrayList;
import java.util.Arrays;
import java.util.HashSet;
import java.util.List;
import java.util.Random;
import java.util.Set;

/**
 * Random runs of calls, each answer held against a model that does what the document's words say, by
 * trying all codewords and by plain linear algebra. The seeds are fixed, so that a run can be repeated.
 */
public final class DefinitionsTest {
    private static final int CALLS = 512;
    private static final int RUNS = 120;
    private static final int[] PRIMITIVE = {11, 13, 19, 25, 37, 41, 47, 55, 59, 61};
    private static int wrong = 0;

    public static void main(String[] args) {
        for (int seed = 1; seed <= RUNS && wrong < 20; seed++) {
            new Run(seed).go();
        }
        for (int p : PRIMITIVE) {
            everyCode(p);
        }
        System.out.println(wrong == 0 ? "all answers are as due" : wrong + " answers are not as due");
        if (wrong != 0) {
            System.exit(1);
        }
    }

    private static void due(String where, String call, long got, long want) {
        if (got != want) {
            wrong++;
            System.out.println(where + ": " + call + " answered " + got + ", due is " + want);
        }
    }

    private static long bit(boolean b) {
        return b ? 1 : 0;
    }

    /** Each code of a field, with one random word: all that its shape alone decides, and the weights. */
    private static void everyCode(int p) {
        int m = p < 16 ? 3 : p < 32 ? 4 : 5;
        Random random = new Random(p);
        for (int kind = 0; kind < 2; kind++) {
            for (int n = 3; n <= Math.min((1 << m) - 1, 20); n++) {
                for (int k = 2; k < n && m * k <= 12; k++) {
                    oneCode(p, kind, n, k, random);
                }
            }
        }
    }

    private static void oneCode(int p, int kind, int n, int k, Random random) {
        String where = "P " + p + " kind " + kind + " n " + n + " k " + k;
        RadiusDecoder x = new RadiusDecoder();
        Model y = new Model();
        due(where, "field", x.field(p), y.field(p));
        due(where, "code", bit(x.code(kind, n, k)), bit(y.code(kind, n, k)));
        for (int i = 0; i < n; i++) {
            int v = random.nextInt(y.size);
            due(where, "receive", bit(x.receive(i, v)), bit(y.receive(i, v)));
        }
        for (int i = 0; i <= n - k; i++) {
            for (int s = 1; s <= 3; s++) {
                due(where, i + " erased: radius(" + s + ")", x.radius(s), y.radius(s));
                due(where, i + " erased: weight(" + s + ")", x.weight(s), y.weight(s));
                due(where, i + " erased: list(" + s + ")", x.list(s), y.list(s));
            }
            due(where, i + " erased: decode(true)", x.decode(true), y.decode());
            due(where, "erase", bit(x.erase(i)), bit(y.erase(i)));
        }
        due(where, "weight(3) with too many erased", x.weight(3), y.weight(3));
    }

    /** One run of random calls on a new object. */
    private static final class Run {
        private final int seed;
        private final Random random;
        private final RadiusDecoder x = new RadiusDecoder();
        private final Model y = new Model();
        private int calls = 0;

        Run(int seed) {
            this.seed = seed;
            this.random = new Random(seed);
        }

        void go() {
            // some runs stay with the first field and code
            if (seed % 4 != 0) {
                field(PRIMITIVE[random.nextInt(PRIMITIVE.length)]);
                code();
            }
            // a step may make some forty calls
            while (calls < CALLS - 50) {
                step();
            }
        }

        private void check(String call, long got, long want) {
            calls++;
            due("seed " + seed + " call " + calls, call, got, want);
        }

        private int near(int limit) {
            return random.nextInt(12) == 0 ? odd() : random.nextInt(limit + 1);
        }

        private int odd() {
            int[] odds = {-1, -2, 20, 21, 31, 32, 63, 64, Integer.MIN_VALUE, Integer.MAX_VALUE, 1 << 30};
            return odds[random.nextInt(odds.length)];
        }

        private int element() {
            return random.nextInt(15) == 0 ? odd() : random.nextInt(y.size + (random.nextInt(10) == 0 ? 1 : 0));
        }

        private void field(int p) {
            check("field(" + p + ")", x.field(p), y.field(p));
        }

        private void code() {
            int kind = random.nextInt(20) == 0 ? odd() : random.nextInt(2);
            int n = random.nextInt(3) == 0 ? Math.min(y.size - 1, 20) : near(21);
            int k = random.nextInt(20) == 0 ? odd() : 1 + random.nextInt(5);
            check("code(" + kind + ", " + n + ", " + k + ")", bit(x.code(kind, n, k)), bit(y.code(kind, n, k)));
        }

        private void receive(int i, int v) {
            check("receive(" + i + ", " + v + ")", bit(x.receive(i, v)), bit(y.receive(i, v)));
        }

        private void erase(int i) {
            check("erase(" + i + ")", bit(x.erase(i)), bit(y.erase(i)));
        }

        private void step() {
            int r = random.nextInt(200);
            if (r < 2) {
                field(random.nextInt(70));
            } else if (r < 6) {
                code();
            } else if (r < 12) {
                fieldCalls();
            } else if (r < 20) {
                send();
            } else if (r < 40) {
                receive(near(y.n), element());
            } else if (r < 50) {
                erase(near(y.n));
            } else if (r < 80) {
                lookAtWord();
            } else if (r < 100) {
                boolean way = random.nextBoolean();
                check("decode(" + way + ")", x.decode(way), y.decode());
            } else if (r < 135) {
                lookAtDecoded();
            } else if (r < 150) {
                int s = near(4);
                check("list(" + s + ")", x.list(s), y.list(s));
            } else if (r < 190) {
                lookAtList();
            } else if (r < 196) {
                int s = near(4);
                check("radius(" + s + ")", x.radius(s), y.radius(s));
            } else {
                int s = near(4);
                check("weight(" + s + ")", x.weight(s), y.weight(s));
            }
        }

        private void fieldCalls() {
            int a = element();
            int b = element();
            check("times(" + a + ", " + b + ")", x.times(a, b), y.times(a, b));
            check("over(" + a + ", " + b + ")", x.over(a, b), y.over(a, b));
            check("log(" + a + ")", x.log(a), y.log(a));
        }

        /** A new message, and its codeword with some places made wrong and some erased. */
        private void send() {
            for (int i = 0; i < y.k; i++) {
                int v = element();
                check("tell(" + i + ", " + v + ")", bit(x.tell(i, v)), bit(y.tell(i, v)));
            }
            int i = near(5);
            check("tell(" + i + ", 1)", bit(x.tell(i, 1)), bit(y.tell(i, 1)));
            boolean systematically = random.nextBoolean();
            check("encode(" + systematically + ")", x.encode(systematically), y.encode(systematically));
            int spoilt = random.nextInt(y.n);
            for (int e = 0; e < spoilt; e++) {
                if (random.nextInt(4) == 0) {
                    erase(random.nextInt(y.n));
                } else {
                    receive(random.nextInt(y.n), random.nextInt(y.size));
                }
            }
        }

        private void lookAtWord() {
            int i = near(y.n);
            check("word(" + i + ")", x.word(i), y.word(i));
            check("syndrome(" + i + ")", x.syndrome(i), y.syndrome(i));
        }

        private void lookAtDecoded() {
            int i = near(y.n);
            check("decoded(" + i + ")", x.decoded(i), y.decoded(i));
            check("locator(" + i + ")", x.locator(i), y.locator(i));
            int j = near(y.k);
            check("sent(" + j + ")", x.sent(j), y.sent(j));
        }

        private void lookAtList() {
            int c = near(y.found.size());
            int i = near(y.n);
            check("listed(" + c + ", " + i + ")", x.listed(c, i), y.listed(c, i));
            check("distance(" + c + ")", x.distance(c), y.distance(c));
        }
    }

    /** The document, read word by word. */
    private static final class Model {
        private int p = 11;
        private int m = 3;
        private int size = 8;
        private final int[][] products = new int[32][32];
        private int kind = 0;
        private int n = 7;
        private int k = 2;
        private int[] message;
        private int[] word;
        private List<int[]> messages;
        private List<int[]> codewords;
        private int[] decoded;
        private int[] sent;
        private int[] locator;
        private List<int[]> found;
        private List<Integer> distances;

        Model() {
            fillProducts();
            begin(0, 7, 2);
        }

        private void begin(int newKind, int newN, int newK) {
            kind = newKind;
            n = newN;
            k = newK;
            message = new int[k];
            word = new int[n];
            decoded = null;
            found = new ArrayList<>();
            distances = new ArrayList<>();
            messages = new ArrayList<>();
            codewords = new ArrayList<>();
            for (int t = 0; t < 1 << m * k; t++) {
                int[] u = new int[k];
                for (int i = 0; i < k; i++) {
                    u[i] = t >> m * i & size - 1;
                }
                messages.add(u);
                codewords.add(plainly(u));
            }
        }

        private static int multiplied(int a, int b, int p, int m) {
            int product = 0;
            for (int i = 0; i < m; i++) {
                if ((b >> i & 1) == 1) {
                    product ^= a << i;
                }
            }
            for (int i = 2 * m; i >= m; i--) {
                if ((product >> i & 1) == 1) {
                    product ^= p << i - m;
                }
            }
            return product;
        }

        private void fillProducts() {
            for (int a = 0; a < size; a++) {
                for (int b = 0; b < size; b++) {
                    products[a][b] = multiplied(a, b, p, m);
                }
            }
        }

        private int mul(int a, int b) {
            return products[a][b];
        }

        private int pow(int a, int e) {
            int result = 1;
            for (int i = 0; i < e; i++) {
                result = mul(result, a);
            }
            return result;
        }

        private int div(int a, int b) {
            for (int q = 0; q < size; q++) {
                if (mul(q, b) == a) {
                    return q;
                }
            }
            throw new IllegalStateException("no quotient");
        }

        private int a(int i) {
            return pow(2, i);
        }

        private int b(int i) {
            int product = 1;
            for (int j = 0; j < n; j++) {
                if (j != i) {
                    product = mul(product, a(i) ^ a(j));
                }
            }
            return product;
        }

        private int t(int i) {
            return kind == 0 ? 1 : div(1, mul(a(i), b(i)));
        }

        private int h(int i) {
            return kind == 0 ? div(1, b(i)) : a(i);
        }

        private int[] product(int[] f, int[] g) {
            int[] result = new int[f.length + g.length - 1];
            for (int i = 0; i < f.length; i++) {
                for (int j = 0; j < g.length; j++) {
                    result[i + j] ^= mul(f[i], g[j]);
                }
            }
            return result;
        }

        private int[] plainly(int[] u) {
            if (kind == 1) {
                int[] c = u;
                for (int r = 1; r <= n - k; r++) {
                    c = product(c, new int[] {a(r), 1});
                }
                return c;
            }
            int[] c = new int[n];
            for (int i = 0; i < n; i++) {
                for (int j = 0; j < k; j++) {
                    c[i] ^= mul(u[j], pow(a(i), j));
                }
            }
            return c;
        }

        private boolean isElement(int v) {
            return v >= 0 && v < size;
        }

        private boolean isPlace(int i) {
            return i >= 0 && i < n;
        }

        /** The model marks an erased place by -1. */
        private int open() {
            int d = 0;
            for (int v : word) {
                d += v >= 0 ? 1 : 0;
            }
            return d;
        }

        private boolean tooMany() {
            return n - open() > n - k;
        }

        private int distanceOf(int[] codeword) {
            int result = 0;
            for (int i = 0; i < n; i++) {
                result += word[i] >= 0 && word[i] != codeword[i] ? 1 : 0;
            }
            return result;
        }

        int field(int newP) {
            if (newP < 8 || newP > 63) {
                return -1;
            }
            int newM = newP < 16 ? 3 : newP < 32 ? 4 : 5;
            Set<Integer> seen = new HashSet<>();
            int power = 1;
            for (int e = 0; e <= (1 << newM) - 2; e++) {
                seen.add(power);
                power = multiplied(power, 2, newP, newM);
            }
            if (seen.size() != (1 << newM) - 1 || power != 1) {
                return -4;
            }
            p = newP;
            m = newM;
            size = 1 << m;
            fillProducts();
            begin(0, Math.min(size - 1, 20), 2);
            return m;
        }

        int times(int a, int b) {
            return isElement(a) && isElement(b) ? mul(a, b) : -1;
        }

        int over(int a, int b) {
            return !isElement(a) || !isElement(b) ? -1 : b == 0 ? -2 : div(a, b);
        }

        int log(int a) {
            if (!isElement(a)) {
                return -1;
            }
            for (int e = 0; e <= size - 2; e++) {
                if (a(e) == a) {
                    return e;
                }
            }
            return -2;
        }

        boolean code(int newKind, int newN, int newK) {
            boolean good = (newKind == 0 || newKind == 1) && 2 <= newK && newK < newN && newN <= size - 1
                    && newN <= 20 && (long) m * newK <= 12;
            if (good) {
                begin(newKind, newN, newK);
            }
            return good;
        }

        boolean tell(int i, int v) {
            boolean good = i >= 0 && i < k && isElement(v);
            if (good) {
                message[i] = v;
            }
            return good;
        }

        int encode(boolean systematically) {
            for (int t = 0; t < codewords.size(); t++) {
                int[] u = messages.get(t);
                int[] c = codewords.get(t);
                int[] told = systematically ? Arrays.copyOfRange(c, n - k, n) : u;
                if (Arrays.equals(told, message)) {
                    word = c.clone();
                }
            }
            int others = 0;
            for (int v : word) {
                others += v != 0 ? 1 : 0;
            }
            return others;
        }

        boolean receive(int i, int v) {
            boolean good = isPlace(i) && isElement(v);
            if (good) {
                word[i] = v;
            }
            return good;
        }

        boolean erase(int i) {
            boolean good = isPlace(i) && word[i] >= 0;
            if (good) {
                word[i] = -1;
            }
            return good;
        }

        int word(int i) {
            return !isPlace(i) ? -1 : word[i] < 0 ? -2 : word[i];
        }

        int syndrome(int j) {
            if (j < 0 || j > n - k - 1) {
                return -1;
            }
            int sum = 0;
            for (int i = 0; i < n; i++) {
                if (word[i] >= 0) {
                    sum ^= mul(mul(h(i), word[i]), pow(a(i), j));
                }
            }
            return sum;
        }

        int decode() {
            if (tooMany()) {
                return -3;
            }
            decoded = null;
            int answer = -2;
            for (int t = 0; t < codewords.size(); t++) {
                int distance = distanceOf(codewords.get(t));
                if (distance <= (open() - k) / 2) {
                    decoded = codewords.get(t);
                    sent = messages.get(t);
                    answer = distance;
                }
            }
            if (decoded != null) {
                locator = new int[] {1};
                for (int i = 0; i < n; i++) {
                    if (word[i] >= 0 && word[i] != decoded[i]) {
                        locator = product(locator, new int[] {1, a(i)});
                    }
                }
            }
            return answer;
        }

        int decoded(int i) {
            return !isPlace(i) ? -1 : decoded == null ? -2 : decoded[i];
        }

        int sent(int i) {
            return i < 0 || i >= k ? -1 : decoded == null ? -2 : sent[i];
        }

        int locator(int i) {
            if (i < 0 || i > n - k) {
                return -1;
            }
            return decoded == null ? -2 : i < locator.length ? locator[i] : 0;
        }

        int list(int s) {
            int radius = radius(s);
            if (radius < 0) {
                return radius;
            }
            found = new ArrayList<>();
            distances = new ArrayList<>();
            for (int[] c : codewords) {
                if (distanceOf(c) <= radius) {
                    found.add(c);
                }
            }
            found.sort(Arrays::compare);
            for (int[] c : found) {
                distances.add(distanceOf(c));
            }
            return found.size();
        }

        int listed(int c, int i) {
            return c < 0 || c >= found.size() || !isPlace(i) ? -1 : found.get(c)[i];
        }

        int distance(int c) {
            return c < 0 || c >= found.size() ? -1 : distances.get(c);
        }

        int radius(int s) {
            if (s < 1 || s > 3) {
                return -1;
            }
            if (tooMany()) {
                return -3;
            }
            int d = open();
            int w = 0;
            while (pairs(w).size() <= d * s * (s + 1) / 2) {
                w++;
            }
            return Math.max((d - k) / 2, d - 1 - w / s);
        }

        /** The pairs i, j with i + (k - 1) j at most w, ordered by that weight. */
        private List<int[]> pairs(int w) {
            List<int[]> result = new ArrayList<>();
            for (int v = 0; v <= w; v++) {
                for (int j = 0; (k - 1) * j <= v; j++) {
                    result.add(new int[] {v - (k - 1) * j, j});
                }
            }
            return result;
        }

        /** The first term that depends on those before it has the least weight. */
        int weight(int s) {
            if (s < 1 || s > 3) {
                return -1;
            }
            if (tooMany()) {
                return -3;
            }
            List<int[]> rows = new ArrayList<>();
            List<Integer> pivots = new ArrayList<>();
            for (int[] pair : pairs(70)) {
                int[] row = shifted(pair[0], pair[1], s);
                for (int r = 0; r < rows.size(); r++) {
                    int factor = row[pivots.get(r)];
                    for (int c = 0; factor != 0 && c < row.length; c++) {
                        row[c] ^= mul(factor, rows.get(r)[c]);
                    }
                }
                int pivot = 0;
                while (pivot < row.length && row[pivot] == 0) {
                    pivot++;
                }
                if (pivot == row.length) {
                    return pair[0] + (k - 1) * pair[1];
                }
                int inverse = div(1, row[pivot]);
                for (int c = 0; c < row.length; c++) {
                    row[c] = mul(inverse, row[c]);
                }
                rows.add(row);
                pivots.add(pivot);
            }
            throw new IllegalStateException("no term depends on those before it");
        }

        /** The terms of (x + a)^i (y + v)^j of which none may be left, at every place. */
        private int[] shifted(int i, int j, int s) {
            int[] row = new int[open() * s * (s + 1) / 2];
            int at = 0;
            for (int place = 0; place < n; place++) {
                if (word[place] >= 0) {
                    int[] inX = raised(a(place), i);
                    int[] inY = raised(div(word[place], t(place)), j);
                    for (int e = 0; e < s; e++) {
                        for (int f = 0; e + f < s; f++) {
                            row[at++] = mul(e <= i ? inX[e] : 0, f <= j ? inY[f] : 0);
                        }
                    }
                }
            }
            return row;
        }

        private int[] raised(int c, int e) {
            int[] result = {1};
            for (int i = 0; i < e; i++) {
                result = product(result, new int[] {c, 1});
            }
            return result;
        }
    }
}
