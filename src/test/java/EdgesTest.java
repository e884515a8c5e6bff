import java.util.function.IntPredicate;
import java.util.function.IntUnaryOperator;

/**
 * The sentences of the document that name a boundary: a test for each, with the sentence above it.
 * That a refused call changes nothing, and the order of refusals, are RefusalsTest's matter.
 */
public final class EdgesTest {
    private static final int BAD = -1;
    private static final int NONE = -2;
    private static final int MANY = -3;
    private static final int LOOSE = -4;
    private static final int LEAST = Integer.MIN_VALUE;
    private static final int MOST = Integer.MAX_VALUE;
    private static final int MOST_CALLS = 512;
    private static final int[] PRIMITIVE = {11, 13, 19, 25, 37, 41, 47, 55, 59, 61};
    private static final int[] ONE_OF_EACH_SIZE = {13, 19, 61};
    private static final boolean[] WAYS = {false, true};
    private static int wrong = 0;

    /** Something to be tried for one code. */
    private interface Trial {
        void at(int p, int kind, int n, int k);
    }

    public static void main(String[] args) {
        theField();
        theCode();
        theWord();
        theRadius();
        newObject();
        fieldAndCode();
        messageAndCodeword();
        receivingAndErasing();
        decoding();
        whatIsDecoded();
        listing();
        weighing();
        lastCall();
        System.out.println(wrong == 0 ? "all answers are as due" : wrong + " answers are not as due");
        if (wrong != 0) {
            System.exit(1);
        }
    }

    private static void theField() {
        elementsEnd();
        elementsEndWithTheField();
        productsWrap();
        powersWrap();
        notPrimitive();
        firstField();
        overZero();
        logOfZero();
    }

    private static void theCode() {
        codeNumbers();
        codeFarNumbers();
        codeNumbersThatWrap();
        firstCode();
        eachCode(EdgesTest::codewordsFillTheLength);
        eachCode(EdgesTest::lastPlacesSystematically);
        shortestCodes();
    }

    private static void theWord() {
        eachCode(EdgesTest::erasedCountsNoMore);
        eachCode(EdgesTest::manyErased);
    }

    private static void theRadius() {
        boundIsByMoreThan();
        boundIsDividedDown();
        eachCode(EdgesTest::radiusIsAsSaid);
        eachCode(EdgesTest::timesEnd);
    }

    private static void fieldAndCode() {
        polynomialsEnd();
        fieldBeginsAnew();
        codeBeginsAnew();
        longerCodeBehindShorter();
    }

    private static void messageAndCodeword() {
        eachCode(EdgesTest::messageEnds);
        encodeCounts();
        encodeLeavesNoneErased();
    }

    private static void receivingAndErasing() {
        eachCode(EdgesTest::placesEnd);
        receivedIsNotErased();
        erasedIsRefusedAgain();
        wordIsErased();
        eachCode(EdgesTest::syndromesEnd);
        eachCode(EdgesTest::syndromeOfOnePlace);
        syndromeOfNothing();
    }

    private static void decoding() {
        eachCode(EdgesTest::codewordIsDecoded);
        eachCode(EdgesTest::halfWrong);
        eachCode(EdgesTest::justEnoughLeft);
        noneFoundUndoes();
    }

    private static void whatIsDecoded() {
        eachCode(EdgesTest::decodedEnds);
        nothingDecodedAtFirst();
        nothingDecodedBehindField();
        nothingDecodedBehindCode();
        eachCode(EdgesTest::nothingDecodedBehindNone);
        eachCode(EdgesTest::locatorOfNoneWrong);
        eachCode(EdgesTest::locatorAtTheEnds);
        eachCode(EdgesTest::locatorOfHalfWrong);
        locatorOfTheWordAsItWas();
    }

    private static void listing() {
        eachCode(EdgesTest::justTheRadius);
        orderByAnErasedPlace();
        listEnds();
        emptyListAtFirst();
        emptyListBehindField();
        emptyListBehindCode();
        emptyListBehindNoneFound();
        shorterListBehindLonger();
        distanceWhenFound();
    }

    private static void weighing() {
        eachCode(EdgesTest::weightOfACodeword);
        eachCode(EdgesTest::weightOfJustEnough);
        weightUpToTheBound();
    }

    // What the tests are made of.

    private static void due(String call, long got, long want) {
        if (got != want) {
            wrong++;
            System.out.println(call + " answered " + got + ", due is " + want);
        }
    }

    private static void due(String call, boolean got, boolean want) {
        due(call, got ? 1 : 0, want ? 1 : 0);
    }

    /** BAD at the first numbers beyond first and last, and at the ends of int; not at first and last. */
    private static void badBeyond(String call, IntUnaryOperator asked, int first, int last) {
        due(call + " at " + first + " is BAD", asked.applyAsInt(first) == BAD, false);
        due(call + " at " + last + " is BAD", asked.applyAsInt(last) == BAD, false);
        for (int i : new int[] {first - 1, last + 1, LEAST, MOST}) {
            due(call + " at " + i, asked.applyAsInt(i), BAD);
        }
    }

    private static void falseBeyond(String call, IntPredicate asked, int first, int last) {
        due(call + " at " + first, asked.test(first), true);
        due(call + " at " + last, asked.test(last), true);
        for (int i : new int[] {first - 1, last + 1, LEAST, MOST}) {
            due(call + " at " + i, asked.test(i), false);
        }
    }

    private static int degree(int p) {
        return p < 16 ? 3 : p < 32 ? 4 : 5;
    }

    private static int size(int p) {
        return 1 << degree(p);
    }

    private static int mostPlaces(int p) {
        return Math.min(size(p) - 1, 20);
    }

    private static int mostDimension(int p) {
        return 12 / degree(p);
    }

    private static void eachCode(Trial trial) {
        for (int p : ONE_OF_EACH_SIZE) {
            for (int kind = 0; kind <= 1; kind++) {
                for (int n = 3; n <= mostPlaces(p); n++) {
                    for (int k = 2; k < n && k <= mostDimension(p); k++) {
                        trial.at(p, kind, n, k);
                    }
                }
            }
        }
    }

    private static String named(int p, int kind, int n, int k) {
        return "P " + p + " kind " + kind + " n " + n + " k " + k + ": ";
    }

    private static RadiusDecoder made(int p, int kind, int n, int k) {
        RadiusDecoder x = new RadiusDecoder();
        due("field(" + p + ")", x.field(p), degree(p));
        due("code(" + kind + ", " + n + ", " + k + ")", x.code(kind, n, k), true);
        return x;
    }

    private static void receiveAll(RadiusDecoder x, int... elements) {
        for (int i = 0; i < elements.length; i++) {
            due("receive(" + i + ", " + elements[i] + ")", x.receive(i, elements[i]), true);
        }
    }

    private static void eraseFirst(RadiusDecoder x, int count) {
        for (int i = 0; i < count; i++) {
            due("erase(" + i + ")", x.erase(i), true);
        }
    }

    private static void allAre(String what, IntUnaryOperator asked, int count, int want) {
        for (int i = 0; i < count; i++) {
            due(what + " at " + i, asked.applyAsInt(i), want);
        }
    }

    private static int product(int p, int a, int b) {
        int result = 0;
        for (int bit = degree(p) - 1; bit >= 0; bit--) {
            result <<= 1;
            result ^= result >= size(p) ? p : 0;
            result ^= (b >> bit & 1) == 1 ? a : 0;
        }
        return result;
    }

    private static int inverse(int p, int a) {
        int result = 1;
        while (product(p, a, result) != 1) {
            result++;
        }
        return result;
    }

    private static int point(int p, int i) {
        return i == 0 ? 1 : product(p, 2, point(p, i - 1));
    }

    /** A codeword without a 0: "those with c(i) = t(i) f(a(i))", f being 1. */
    private static int[] codewordWithoutZero(int p, int kind, int n) {
        int[] factors = new int[n];
        for (int i = 0; i < n; i++) {
            int apart = point(p, i);
            for (int j = 0; j < n; j++) {
                apart = j == i ? apart : product(p, apart, point(p, i) ^ point(p, j));
            }
            factors[i] = kind == 0 ? 1 : inverse(p, apart);
        }
        return factors;
    }

    /** A word of which every codeword is n - k or more away: t(i) a(i)^k meets a lesser f in k places at most. */
    private static int[] farWord(int p, int kind, int n, int k) {
        int[] elements = codewordWithoutZero(p, kind, n);
        for (int i = 0; i < n; i++) {
            elements[i] = product(p, elements[i], point(p, i * k));
        }
        return elements;
    }

    /** Something is decoded, something listed and something erased, in a code of kind 1, n 7, k 3. */
    private static RadiusDecoder busy() {
        RadiusDecoder x = made(13, 1, 7, 3);
        for (int i = 0; i < 3; i++) {
            due("busy: tell(" + i + ", 5)", x.tell(i, 5), true);
        }
        due("busy: encode(true)", x.encode(true) > 0, true);
        due("busy: receive(0, ..)", x.receive(0, x.word(0) ^ 1), true);
        due("busy: decode(true)", x.decode(true), 1);
        due("busy: list(1)", x.list(1), 1);
        due("busy: erase(6)", x.erase(6), true);
        return x;
    }

    private static int pairs(int w, int k) {
        int count = 0;
        for (int i = 0; i <= w; i++) {
            for (int j = 0; i + (k - 1) * j <= w; j++) {
                count++;
            }
        }
        return count;
    }

    private static int bound(int d, int k, int s) {
        int w = 0;
        while (pairs(w, k) <= d * s * (s + 1) / 2) {
            w++;
        }
        return w;
    }

    // Terms: the field; promises 3 to 5.

    /** "the numbers 0 .. 2^m - 1"; "BAD when one is none"; "v is no element" */
    private static void elementsEnd() {
        for (int p : PRIMITIVE) {
            RadiusDecoder x = made(p, 0, 7, 2);
            String where = "P " + p + ": ";
            int last = size(p) - 1;
            badBeyond(where + "times(v, 1)", v -> x.times(v, 1), 0, last);
            badBeyond(where + "times(1, v)", v -> x.times(1, v), 0, last);
            badBeyond(where + "times(v, v)", v -> x.times(v, v), 0, last);
            badBeyond(where + "over(v, 1)", v -> x.over(v, 1), 0, last);
            badBeyond(where + "over(1, v)", v -> x.over(1, v), 0, last);
            badBeyond(where + "over(v, v)", v -> x.over(v, v), 0, last);
            badBeyond(where + "log(v)", v -> x.log(v), 0, last);
            falseBeyond(where + "tell(1, v)", v -> x.tell(1, v), 0, last);
            falseBeyond(where + "receive(6, v)", v -> x.receive(6, v), 0, last);
            due(where + "word(6)", x.word(6), last);
        }
    }

    /** The last element of a greater field is none of a lesser one behind it. */
    private static void elementsEndWithTheField() {
        RadiusDecoder x = made(61, 0, 20, 2);
        for (int p : new int[] {25, 11}) {
            due("field(" + p + ")", x.field(p), degree(p));
            for (int v = size(p); v < 32; v++) {
                due("P " + p + ": times(" + v + ", 1)", x.times(v, 1), BAD);
                due("P " + p + ": over(0, " + v + ")", x.over(0, v), BAD);
                due("P " + p + ": log(" + v + ")", x.log(v), BAD);
                due("P " + p + ": tell(0, " + v + ")", x.tell(0, v), false);
                due("P " + p + ": receive(0, " + v + ")", x.receive(0, v), false);
            }
        }
    }

    /** "multiplied as polynomials in x, of whose product the remainder by P is taken" */
    private static void productsWrap() {
        for (int p : PRIMITIVE) {
            RadiusDecoder x = made(p, 0, 7, 2);
            int half = size(p) / 2;
            due("P " + p + ": the last product without a remainder", x.times(half / 2, 2), half);
            due("P " + p + ": the first product with one", x.times(half, 2), p - size(p));
            due("P " + p + ": times(0, last)", x.times(0, size(p) - 1), 0);
            due("P " + p + ": times(last, 0)", x.times(size(p) - 1, 0), 0);
            due("P " + p + ": times(1, last)", x.times(1, size(p) - 1), size(p) - 1);
        }
        due("P 11: x^2 x^2", made(11, 0, 7, 2).times(4, 4), 6);
        due("P 25: x^3 x^3", made(25, 0, 7, 2).times(8, 8), 15);
        due("P 37: x^4 x^4", made(37, 0, 7, 2).times(16, 16), 13);
    }

    /** "x^0, x^1, .., x^(2^m - 2) are all different and x^(2^m - 1) is 1"; "e from 0 to 2^m - 2" */
    private static void powersWrap() {
        for (int p : PRIMITIVE) {
            RadiusDecoder x = made(p, 0, 7, 2);
            int power = 1;
            for (int e = 0; e <= size(p) - 2; e++) {
                due("P " + p + ": log(" + power + ")", x.log(power), e);
                power = x.times(power, 2);
            }
            due("P " + p + ": x^(2^m - 1)", power, 1);
            int last = x.over(1, 2);
            due("P " + p + ": log(over(1, 2))", x.log(last), size(p) - 2);
            due("P " + p + ": times(over(1, 2), 2)", x.times(last, 2), 1);
            due("P " + p + ": over(2, over(1, 2))", x.over(2, last), 4);
            due("P " + p + ": log(1)", x.log(1), 0);
        }
    }

    /** "LOOSE when it is not primitive" */
    private static void notPrimitive() {
        // the first numbers of each m: x^m is 0
        loose(8, 16, 32);
        // the last numbers of each m: x^(m + 1) is 1; for m = 4 no product of lesser ones, and x^15 is 1 too
        loose(15, 31, 63);
        // x^m is 1 already
        loose(9, 17, 33);
        // multiples of x: no later power is 1
        loose(10, 12, 14, 22, 26, 62);
        // (x^2 + x + 1)^2
        loose(21);
        // next to primitive ones
        loose(18, 20, 24, 36, 38, 40, 42, 46, 48, 54, 56, 58, 60);
    }

    private static void loose(int... polynomials) {
        for (int p : polynomials) {
            due("field(" + p + ")", new RadiusDecoder().field(p), LOOSE);
        }
    }

    /** "At first P is 11 (so m is 3)." */
    private static void firstField() {
        RadiusDecoder x = new RadiusDecoder();
        due("new: times(4, 2)", x.times(4, 2), 3);
        due("new: log(5)", x.log(5), 6);
        badBeyond("new: log(v)", v -> x.log(v), 0, 7);
    }

    /** "BAD when one is no element; NONE when b is 0." */
    private static void overZero() {
        for (int p : PRIMITIVE) {
            RadiusDecoder x = made(p, 0, 7, 2);
            for (int a : new int[] {0, 1, size(p) - 1}) {
                due("P " + p + ": over(" + a + ", 0)", x.over(a, 0), NONE);
            }
            for (int a : new int[] {-1, size(p), LEAST, MOST}) {
                due("P " + p + ": over(" + a + ", 0)", x.over(a, 0), BAD);
            }
            due("P " + p + ": over(0, last)", x.over(0, size(p) - 1), 0);
            due("P " + p + ": over(last, last)", x.over(size(p) - 1, size(p) - 1), 1);
            due("P " + p + ": over(last, 1)", x.over(size(p) - 1, 1), size(p) - 1);
        }
    }

    /** "BAD when a is no element; NONE when it is 0." */
    private static void logOfZero() {
        for (int p : PRIMITIVE) {
            due("P " + p + ": log(0)", made(p, 0, 7, 2).log(0), NONE);
        }
    }

    // Terms: the code; promise 6.

    /** "KIND, 0 or 1"; "2 <= k < n <= 2^m - 1, n <= 20 and m * k <= 12" */
    private static void codeNumbers() {
        for (int p : PRIMITIVE) {
            for (int kind = -1; kind <= 2; kind++) {
                for (int n = -1; n <= 33; n++) {
                    RadiusDecoder x = new RadiusDecoder();
                    x.field(p);
                    for (int k = -1; k <= 13; k++) {
                        boolean good = (kind == 0 || kind == 1) && 2 <= k && k < n && n <= size(p) - 1
                                && n <= 20 && degree(p) * k <= 12;
                        due(named(p, kind, n, k) + "code", x.code(kind, n, k), good);
                    }
                }
            }
        }
    }

    /** The same, at the least and the greatest int. */
    private static void codeFarNumbers() {
        for (int p : ONE_OF_EACH_SIZE) {
            RadiusDecoder x = made(p, 0, 7, 2);
            int n = mostPlaces(p);
            int k = mostDimension(p);
            falseBeyond("P " + p + ": code(kind, ..)", v -> x.code(v, n, k), 0, 1);
            falseBeyond("P " + p + ": code(0, n, 2)", v -> x.code(0, v, 2), 3, n);
            falseBeyond("P " + p + ": code(1, n, most)", v -> x.code(1, v, k), k + 1, n);
            falseBeyond("P " + p + ": code(0, most, k)", v -> x.code(0, n, v), 2, k);
            falseBeyond("P " + p + ": code(1, 3, k)", v -> x.code(1, 3, v), 2, 2);
            for (int far : new int[] {LEAST, MOST}) {
                due("P " + p + ": all far", x.code(far, far, far), false);
                due("P " + p + ": n and k far", x.code(0, far, far), false);
                due("P " + p + ": n far, k farther", x.code(0, MOST, far - 1), false);
            }
        }
    }

    /** "m * k <= 12" and "k < n", where int arithmetic would wrap round to a small number */
    private static void codeNumbersThatWrap() {
        for (int p : ONE_OF_EACH_SIZE) {
            RadiusDecoder x = made(p, 0, 7, 2);
            for (int k : new int[] {1 << 30, 1 << 29, 1431655766, 858993460, LEAST + 2, MOST - 1}) {
                due("P " + p + ": code(0, 7, " + k + ")", x.code(0, 7, k), false);
                due("P " + p + ": code(1, MOST, " + k + ")", x.code(1, MOST, k), false);
                due("P " + p + ": code(1, LEAST, " + k + ")", x.code(1, LEAST, k), false);
            }
        }
    }

    /** "at first kind 0, n 7, k 2" */
    private static void firstCode() {
        RadiusDecoder x = new RadiusDecoder();
        badBeyond("new: word(i)", i -> x.word(i), 0, 6);
        badBeyond("new: syndrome(j)", j -> x.syndrome(j), 0, 4);
        badBeyond("new: sent(i)", i -> x.sent(i), 0, 1);
        falseBeyond("new: tell(i, 1)", i -> x.tell(i, 1), 0, 1);
        due("new, f(y) = 1 + y: encode(false)", x.encode(false), 6);
        due("new, f(y) = 1 + y: word(0)", x.word(0), 0);
        due("new, f(y) = 1 + y: word(6)", x.word(6), 4);
    }

    /** "f of a degree below k" and "a multiple of g(y)": the last element of the message reaches the last place */
    private static void codewordsFillTheLength(int p, int kind, int n, int k) {
        RadiusDecoder x = made(p, kind, n, k);
        String where = named(p, kind, n, k);
        due(where + "tell(k - 1, 1)", x.tell(k - 1, 1), true);
        x.encode(false);
        if (kind == 0) {
            due(where + "word(0)", x.word(0), 1);
            due(where + "log(word(n - 1))", x.log(x.word(n - 1)), (n - 1) * (k - 1) % (size(p) - 1));
        } else {
            allAre(where + "word(i), below the first", x::word, k - 1, 0);
            due(where + "log(word(k - 1))", x.log(x.word(k - 1)), (n - k) * (n - k + 1) / 2 % (size(p) - 1));
            due(where + "word(n - 1)", x.word(n - 1), 1);
        }
        allAre(where + "syndrome", x::syndrome, n - k, 0);
    }

    /** "the codeword (there is just one) which has u(0), .., u(k - 1), in this order, in its last k places" */
    private static void lastPlacesSystematically(int p, int kind, int n, int k) {
        RadiusDecoder x = made(p, kind, n, k);
        String where = named(p, kind, n, k);
        for (int i = 0; i < k; i++) {
            x.tell(i, size(p) - 1 - i);
        }
        x.encode(true);
        for (int i = 0; i < k; i++) {
            due(where + "word(n - k + " + i + ")", x.word(n - k + i), size(p) - 1 - i);
        }
        allAre(where + "syndrome", x::syndrome, n - k, 0);
    }

    /** "k < n": with n just k + 1 one place is checked and none can be wrong */
    private static void shortestCodes() {
        for (int p : PRIMITIVE) {
            for (int kind = 0; kind <= 1; kind++) {
                for (int k = 2; k <= mostDimension(p); k++) {
                    shortestCode(p, kind, k);
                }
            }
        }
    }

    private static void shortestCode(int p, int kind, int k) {
        RadiusDecoder x = made(p, kind, k + 1, k);
        String where = named(p, kind, k + 1, k);
        badBeyond(where + "syndrome(j)", j -> x.syndrome(j), 0, 0);
        x.tell(0, 1);
        x.encode(false);
        due(where + "decode of a codeword", x.decode(true), 0);
        badBeyond(where + "locator(i)", i -> x.locator(i), 0, 1);
        x.receive(k, x.word(k) ^ 1);
        due(where + "syndrome(0) with one wrong is 0", x.syndrome(0) == 0, false);
        due(where + "decode with one wrong", x.decode(true), NONE);
        due(where + "erase(k)", x.erase(k), true);
        due(where + "decode with one erased", x.decode(true), 0);
        due(where + "sent(0)", x.sent(0), 1);
        due(where + "erase(0)", x.erase(0), true);
        due(where + "decode with two erased", x.decode(true), MANY);
    }

    // Terms: the word.

    /** "Some places of the word may be ERASED, none at first: what was there counts no more." */
    private static void erasedCountsNoMore(int p, int kind, int n, int k) {
        String where = named(p, kind, n, k);
        RadiusDecoder x = made(p, kind, n, k);
        RadiusDecoder y = made(p, kind, n, k);
        for (int i = 0; i < n; i++) {
            x.receive(i, (i * i + 3) % size(p));
            y.receive(i, i == n - 1 ? x.word(i) ^ 1 : x.word(i));
        }
        x.erase(n - 1);
        y.erase(n - 1);
        for (int j = 0; j < n - k; j++) {
            due(where + "syndrome(" + j + ")", y.syndrome(j), x.syndrome(j));
        }
        due(where + "decode", y.decode(true), x.decode(true));
        for (int s = 1; s <= 3; s++) {
            due(where + "weight(" + s + ")", y.weight(s), x.weight(s));
            due(where + "list(" + s + ")", y.list(s), x.list(s));
            due(where + "distance(0) of " + s, y.distance(0), x.distance(0));
            due(where + "listed(0, n - 1) of " + s, y.listed(0, n - 1), x.listed(0, n - 1));
        }
    }

    /** "MANY means that more than n - k places are erased." */
    private static void manyErased(int p, int kind, int n, int k) {
        String where = named(p, kind, n, k);
        RadiusDecoder x = made(p, kind, n, k);
        areMany(where + "none erased", x, false);
        for (int i = 0; i < n; i++) {
            due(where + "erase(" + i + ")", x.erase(i), true);
            areMany(where + (i + 1) + " erased", x, i + 1 > n - k);
        }
        for (int i = n - 1; i >= n - k; i--) {
            areMany(where + (i + 1) + " erased again", x, true);
            due(where + "receive(" + i + ", 0)", x.receive(i, 0), true);
        }
        areMany(where + "n - k erased again", x, false);
    }

    private static void areMany(String where, RadiusDecoder x, boolean want) {
        due(where + ": radius(1) is MANY", x.radius(1) == MANY, want);
        due(where + ": radius(3) is MANY", x.radius(3) == MANY, want);
        due(where + ": weight(1) is MANY", x.weight(1) == MANY, want);
        due(where + ": decode(true) is MANY", x.decode(true) == MANY, want);
        due(where + ": decode(false) is MANY", x.decode(false) == MANY, want);
        due(where + ": list(1) is MANY", x.list(1) == MANY, want);
        due(where + ": list(3) is MANY", x.list(3) == MANY, want);
    }

    // Terms: the bound and the radius; promise 20.

    /** "THE BOUND for s is the least w for which there are more than d s (s + 1) / 2 pairs" */
    private static void boundIsByMoreThan() {
        // in all these just as many pairs have the bound less 1
        radiusIs(13, 3, 2, 1, 0);
        radiusIs(13, 6, 2, 1, 2);
        radiusIs(13, 7, 2, 2, 3);
        radiusIs(19, 10, 2, 1, 5);
        radiusIs(19, 12, 2, 2, 7);
        radiusIs(19, 13, 2, 3, 8);
        radiusIs(19, 15, 2, 1, 9);
        radiusIs(61, 20, 2, 3, 14);
        radiusIs(19, 9, 3, 1, 3);
        radiusIs(19, 14, 3, 2, 7);
        radiusIs(19, 15, 3, 3, 8);
        radiusIs(13, 5, 4, 1, 0);
        radiusIs(13, 5, 4, 2, 0);
        radiusIs(13, 5, 4, 3, 0);
        radiusIs(13, 7, 4, 1, 1);
    }

    private static void radiusIs(int p, int n, int k, int s, int want) {
        for (int kind = 0; kind <= 1; kind++) {
            due(named(p, kind, n, k) + "radius(" + s + ")", made(p, kind, n, k).radius(s), want);
        }
    }

    /** "d - 1 - (the bound / s, rounded down)" */
    private static void boundIsDividedDown() {
        // the bounds are 5, 8, 15: divided by s just whole, or with something left over
        radiusIs(13, 5, 2, 2, 2);
        radiusIs(13, 7, 2, 3, 4);
        radiusIs(61, 18, 2, 3, 13);
        radiusIs(61, 19, 2, 3, 14);
        radiusIs(61, 20, 2, 2, 14);
    }

    /** "THE RADIUS for s is the greater one of HALF and d - 1 - (the bound / s, rounded down)." */
    private static void radiusIsAsSaid(int p, int kind, int n, int k) {
        RadiusDecoder x = made(p, kind, n, k);
        for (int d = n; d >= k; d--) {
            for (int s = 1; s <= 3; s++) {
                int want = Math.max((d - k) / 2, d - 1 - bound(d, k, s) / s);
                due(named(p, kind, n, k) + d + " left: radius(" + s + ")", x.radius(s), want);
            }
            x.erase(d - 1);
        }
    }

    /** "BAD when s is not 1 .. 3", of list, radius and weight */
    private static void timesEnd(int p, int kind, int n, int k) {
        RadiusDecoder x = made(p, kind, n, k);
        String where = named(p, kind, n, k);
        badBeyond(where + "list(s)", s -> x.list(s), 1, 3);
        badBeyond(where + "radius(s)", s -> x.radius(s), 1, 3);
        badBeyond(where + "weight(s)", s -> x.weight(s), 1, 3);
    }

    // Promises 1 and 2, and 6 once more.

    /** "There are a message and a WORD of n elements, at first all 0." "Nothing is decoded, the list is empty." */
    private static void newObject() {
        RadiusDecoder x = new RadiusDecoder();
        beginsAnew("new", x, 7, 2);
    }

    /** Kind 0, word and message all 0, nothing erased, nothing decoded, no list. */
    private static void beginsAnew(String where, RadiusDecoder x, int n, int k) {
        nothingIsDecoded(where, x, n, k);
        listIsEmpty(where, x);
        allAre(where + ": word(i)", x::word, n, 0);
        due(where + ": word(n)", x.word(n), BAD);
        allAre(where + ": syndrome(j)", x::syndrome, n - k, 0);
        due(where + ": syndrome(n - k)", x.syndrome(n - k), BAD);
        due(where + ": encode(true)", x.encode(true), 0);
        due(where + ": encode(false)", x.encode(false), 0);
        due(where + ": tell(k, 0)", x.tell(k, 0), false);
        due(where + ": decode(true)", x.decode(true), 0);
        due(where + ": list(1)", x.list(1), 1);
        due(where + ": tell(0, 1)", x.tell(0, 1), true);
        due(where + ": encode(false) of f = 1", x.encode(false), n);
        allAre(where + ": word(i) of f = 1", x::word, n, 1);
    }

    /** "BAD when p is not 8 .. 63" */
    private static void polynomialsEnd() {
        RadiusDecoder x = new RadiusDecoder();
        badBeyond("field(p)", p -> x.field(p), 8, 63);
        for (int p : new int[] {0, 1, 2, 3, 5, 7, 67, 75, 91, -11, -19, -61, LEAST + 11, 11 + 256}) {
            due("field(" + p + ")", x.field(p), BAD);
        }
        due("field(11), the first primitive one", x.field(11), 3);
        due("field(61), the last primitive one", x.field(61), 5);
    }

    /** "The code is of kind 0, with n the lesser of 2^m - 1 and 20, and k 2; message and word are all 0, .." */
    private static void fieldBeginsAnew() {
        for (int p : PRIMITIVE) {
            RadiusDecoder x = busy();
            due("busy: field(" + p + ")", x.field(p), degree(p));
            beginsAnew("behind field(" + p + ")", x, mostPlaces(p), 2);
        }
    }

    /** "The code is this from now on; message and word are all 0, nothing is erased, .." */
    private static void codeBeginsAnew() {
        for (int n = 3; n <= 7; n++) {
            for (int k = 2; k < n && k <= 4; k++) {
                RadiusDecoder x = busy();
                due("busy: code(0, " + n + ", " + k + ")", x.code(0, n, k), true);
                beginsAnew("behind code(0, " + n + ", " + k + ")", x, n, k);
            }
        }
        RadiusDecoder x = busy();
        due("busy: code(1, 7, 3), as it was", x.code(1, 7, 3), true);
        nothingIsDecoded("behind the same code", x, 7, 3);
        listIsEmpty("behind the same code", x);
        allAre("behind the same code: word(i)", x::word, 7, 0);
        due("behind the same code: encode(true)", x.encode(true), 0);
    }

    /** "message and word are all 0, nothing is erased": also what a shorter code between had no room for */
    private static void longerCodeBehindShorter() {
        RadiusDecoder x = made(11, 0, 7, 4);
        for (int i = 0; i < 4; i++) {
            due("longer: tell(" + i + ", 7)", x.tell(i, 7), true);
        }
        receiveAll(x, 1, 2, 3, 4, 5, 6, 7);
        due("longer: erase(5)", x.erase(5), true);
        due("longer: erase(6)", x.erase(6), true);
        due("code(0, 3, 2)", x.code(0, 3, 2), true);
        beginsAnew("shorter", x, 3, 2);
        due("code(0, 7, 4)", x.code(0, 7, 4), true);
        beginsAnew("longer again", x, 7, 4);
    }

    // Promises 7 and 8.

    /** "when i is not 0 .. k - 1", of tell and sent */
    private static void messageEnds(int p, int kind, int n, int k) {
        RadiusDecoder x = made(p, kind, n, k);
        String where = named(p, kind, n, k);
        falseBeyond(where + "tell(i, 1)", i -> x.tell(i, 1), 0, k - 1);
        badBeyond(where + "nothing decoded: sent(i)", i -> x.sent(i), 0, k - 1);
        due(where + "decode(false)", x.decode(false), 0);
        badBeyond(where + "sent(i)", i -> x.sent(i), 0, k - 1);
    }

    /** "Answers how many of its elements are not 0." */
    private static void encodeCounts() {
        RadiusDecoder x = made(19, 0, 15, 3);
        due("f = 0: encode(false)", x.encode(false), 0);
        due("f = 0: encode(true)", x.encode(true), 0);
        x.tell(0, 15);
        due("f = 15: encode(false)", x.encode(false), 15);
        // (y - 1) (y - x^14) is 9 + 8 y + y^2, which is 0 at the first and the last place
        x.tell(0, 9);
        x.tell(1, 8);
        x.tell(2, 1);
        due("0 at both ends: encode(false)", x.encode(false), 13);
        due("0 at both ends: word(0)", x.word(0), 0);
        due("0 at both ends: word(14)", x.word(14), 0);
        RadiusDecoder y = made(19, 1, 15, 3);
        y.tell(0, 1);
        due("g itself: encode(false)", y.encode(false), 13);
        due("g itself: word(12)", y.word(12), 1);
        due("g itself: word(13)", y.word(13), 0);
    }

    /** "nothing is erased then" */
    private static void encodeLeavesNoneErased() {
        for (boolean systematically : WAYS) {
            for (int erased = 0; erased <= 7; erased++) {
                RadiusDecoder x = made(13, 1, 7, 3);
                eraseFirst(x, erased);
                due("encode(" + systematically + ")", x.encode(systematically), 0);
                allAre(erased + " were erased: word(i)", x::word, 7, 0);
                due(erased + " were erased: radius(1)", x.radius(1), 2);
            }
        }
    }

    // Promises 9 to 12.

    /** "when there is no place i", of receive, erase, word and decoded */
    private static void placesEnd(int p, int kind, int n, int k) {
        RadiusDecoder x = made(p, kind, n, k);
        String where = named(p, kind, n, k);
        falseBeyond(where + "receive(i, 1)", i -> x.receive(i, 1), 0, n - 1);
        badBeyond(where + "word(i)", i -> x.word(i), 0, n - 1);
        falseBeyond(where + "erase(i)", i -> x.erase(i), 0, n - 1);
        badBeyond(where + "word(i) when erased", i -> x.word(i), 0, n - 1);
        badBeyond(where + "decoded(i)", i -> x.decoded(i), 0, n - 1);
    }

    /** "Place i of the word becomes v, and is not erased then." */
    private static void receivedIsNotErased() {
        RadiusDecoder x = new RadiusDecoder();
        eraseFirst(x, 7);
        for (int i = 0; i < 7; i++) {
            due("all erased: receive(" + i + ", " + (7 - i) + ")", x.receive(i, 7 - i), true);
            due("received: word(" + i + ")", x.word(i), 7 - i);
            due("received " + (i + 1) + ": radius(1) is MANY", x.radius(1) == MANY, i + 1 < 2);
        }
        due("receive(3, 0) over another", x.receive(3, 0), true);
        due("receive(3, 0) again", x.receive(3, 0), true);
        due("received 0: word(3)", x.word(3), 0);
        due("received twice: radius(3) of all seven", x.radius(3), 4);
    }

    /** "false, refused, when there is no place i or it is erased" */
    private static void erasedIsRefusedAgain() {
        RadiusDecoder x = new RadiusDecoder();
        for (int i = 0; i < 7; i++) {
            due("erase(" + i + ")", x.erase(i), true);
            due("erase(" + i + ") again", x.erase(i), false);
        }
        due("all erased: erase(7)", x.erase(7), false);
        due("receive(6, 0)", x.receive(6, 0), true);
        due("received: erase(6)", x.erase(6), true);
        due("erase(6) again", x.erase(6), false);
        due("encode(false)", x.encode(false), 0);
        due("encoded: erase(0)", x.erase(0), true);
        due("field(11)", x.field(11), 3);
        due("behind field: erase(0)", x.erase(0), true);
        due("code(0, 7, 2)", x.code(0, 7, 2), true);
        due("behind code: erase(0)", x.erase(0), true);
    }

    /** "BAD when there is none; NONE when it is erased." */
    private static void wordIsErased() {
        RadiusDecoder x = new RadiusDecoder();
        receiveAll(x, 7, 6, 5, 4, 3, 2, 1);
        for (int i : new int[] {0, 6, 3}) {
            due("erase(" + i + ")", x.erase(i), true);
        }
        int[] want = {NONE, 6, 5, NONE, 3, 2, NONE, BAD};
        for (int i = 0; i < want.length; i++) {
            due("some erased: word(" + i + ")", x.word(i), want[i]);
        }
    }

    /** "BAD when j is not 0 .. n - k - 1." */
    private static void syndromesEnd(int p, int kind, int n, int k) {
        RadiusDecoder x = made(p, kind, n, k);
        badBeyond(named(p, kind, n, k) + "syndrome(j)", j -> x.syndrome(j), 0, n - k - 1);
    }

    /** "h(i) times the word's element times a(i)^j": of the first place and the last, with the first and last j */
    private static void syndromeOfOnePlace(int p, int kind, int n, int k) {
        String where = named(p, kind, n, k);
        int[] factors = codewordWithoutZero(p, 1, n);
        for (int i : new int[] {0, n - 1}) {
            RadiusDecoder x = made(p, kind, n, k);
            int last = size(p) - 1;
            due(where + "receive", x.receive(i, last), true);
            // 1 / b(i) is a(i) times the factor t(i) of kind 1
            int h = kind == 0 ? product(p, point(p, i), factors[i]) : point(p, i);
            for (int j : new int[] {0, n - k - 1}) {
                int want = product(p, product(p, h, last), point(p, i * j));
                due(where + "only " + i + ": syndrome(" + j + ")", x.syndrome(j), want);
            }
        }
    }

    /** "over all places i that are not erased": of one place left, and of none */
    private static void syndromeOfNothing() {
        RadiusDecoder x = made(13, 1, 7, 2);
        receiveAll(x, 1, 2, 3, 4, 5, 6, 7);
        eraseFirst(x, 6);
        // a(6) is 6 by 13, and h(6) is a(6) for kind 1
        due("one left: syndrome(0)", x.syndrome(0), x.times(6, 7));
        due("one left: syndrome(4)", x.syndrome(4), x.times(x.times(x.times(6, 6), x.times(6, 6)), x.times(6, 7)));
        due("erase(6)", x.erase(6), true);
        allAre("none left: syndrome(j)", x::syndrome, 5, 0);
        due("none left: syndrome(5)", x.syndrome(5), BAD);
    }

    // Promise 13.

    /** "Looks for a codeword of a distance of at most HALF": of the distance 0 */
    private static void codewordIsDecoded(int p, int kind, int n, int k) {
        String where = named(p, kind, n, k);
        int[] codeword = codewordWithoutZero(p, kind, n);
        for (boolean way : WAYS) {
            RadiusDecoder x = made(p, kind, n, k);
            receiveAll(x, codeword);
            for (int erased = 0; erased <= n - k; erased++) {
                due(where + erased + " erased: decode", x.decode(way), 0);
                due(where + erased + " erased: decoded(0)", x.decoded(0), codeword[0]);
                due(where + erased + " erased: decoded(n - 1)", x.decoded(n - 1), codeword[n - 1]);
                x.erase(erased);
            }
        }
    }

    /** "HALF is (d - k) / 2, rounded down": just HALF wrong, and one more, for each d */
    private static void halfWrong(int p, int kind, int n, int k) {
        int[] codeword = codewordWithoutZero(p, kind, n);
        for (int d = k + 1; d <= n; d++) {
            int half = (d - k) / 2;
            for (boolean way : WAYS) {
                String where = named(p, kind, n, k) + d + " left: ";
                RadiusDecoder x = made(p, kind, n, k);
                eraseFirst(x, n - d);
                spoil(x, codeword, n - d, half);
                due(where + "HALF wrong: decode(" + way + ")", x.decode(way), half);
                allAre(where + "HALF wrong: decoded(i)", x::decoded, n, 0);
                if (othersAreFar(d, k)) {
                    spoil(x, codeword, n - d, half + 1);
                    due(where + "one more wrong: decode(" + way + ")", x.decode(way), NONE);
                    nothingIsDecoded(where + "one more wrong", x, n, k);
                }
            }
        }
    }

    private static void spoil(RadiusDecoder x, int[] codeword, int from, int count) {
        for (int i = from; i < from + count; i++) {
            due("receive(" + i + ", " + codeword[i] + ")", x.receive(i, codeword[i]), true);
        }
    }

    /**
     * Whether no codeword can have HALF + 1 places of a codeword without a 0 and else 0, but for HALF
     * of the d places. That codeword itself has HALF + 1 of the d - HALF places that are needed, the
     * zeros have one too few, and any other has at most k - 1 in common with each of these two.
     */
    private static boolean othersAreFar(int d, int k) {
        int needed = d - (d - k) / 2;
        return (d - k) / 2 + 1 < needed && 2 * (k - 1) < needed;
    }

    /** "MANY means that more than n - k places are erased": with just k left, every word is decoded */
    private static void justEnoughLeft(int p, int kind, int n, int k) {
        String where = named(p, kind, n, k);
        for (boolean way : WAYS) {
            RadiusDecoder x = made(p, kind, n, k);
            eraseFirst(x, n - k);
            for (int i = n - k; i < n; i++) {
                x.receive(i, (i * i + 1) % size(p));
            }
            due(where + "k left: decode", x.decode(way), 0);
            for (int i = n - k; i < n; i++) {
                due(where + "k left: decoded(" + i + ")", x.decoded(i), (i * i + 1) % size(p));
            }
            for (int i = 0; i < n; i++) {
                x.receive(i, x.decoded(i));
            }
            allAre(where + "what was decoded: syndrome(j)", x::syndrome, n - k, 0);
        }
    }

    /** "NONE when there is none; then nothing is decoded." */
    private static void noneFoundUndoes() {
        for (boolean way : WAYS) {
            RadiusDecoder x = new RadiusDecoder();
            receiveAll(x, 0, 0, 0, 0, 5, 5);
            due("two wrong: decode", x.decode(way), 2);
            due("two wrong: list(1)", x.list(1), 1);
            x.receive(3, 5);
            due("three wrong: decode", x.decode(way), NONE);
            nothingIsDecoded("three wrong", x, 7, 2);
            due("three wrong: the list stays, distance(0)", x.distance(0), 2);
            x.receive(3, 0);
            due("two wrong again: decode", x.decode(way), 2);
            due("two wrong again: decoded(5)", x.decoded(5), 0);
        }
    }

    // Promises 14 to 16.

    /** "BAD when there is no place i", "BAD when i is not 0 .. k - 1", "BAD when i is not 0 .. n - k" */
    private static void decodedEnds(int p, int kind, int n, int k) {
        RadiusDecoder x = made(p, kind, n, k);
        String where = named(p, kind, n, k);
        nothingIsDecoded(where + "nothing decoded", x, n, k);
        due(where + "decode(true)", x.decode(true), 0);
        badBeyond(where + "decoded(i)", i -> x.decoded(i), 0, n - 1);
        badBeyond(where + "sent(i)", i -> x.sent(i), 0, k - 1);
        badBeyond(where + "locator(i)", i -> x.locator(i), 0, n - k);
        due(where + "decoded(n - 1)", x.decoded(n - 1), 0);
        due(where + "sent(k - 1)", x.sent(k - 1), 0);
    }

    private static void noneWithin(String call, IntUnaryOperator asked, int last) {
        badBeyond(call, asked, 0, last);
        allAre(call, asked, last + 1, NONE);
    }

    private static void nothingIsDecoded(String where, RadiusDecoder x, int n, int k) {
        noneWithin(where + ": decoded(i)", i -> x.decoded(i), n - 1);
        noneWithin(where + ": sent(i)", i -> x.sent(i), k - 1);
        noneWithin(where + ": locator(i)", i -> x.locator(i), n - k);
    }

    /** "NONE when nothing is decoded": on a new object */
    private static void nothingDecodedAtFirst() {
        RadiusDecoder x = new RadiusDecoder();
        nothingIsDecoded("new", x, 7, 2);
        x.tell(0, 1);
        x.encode(false);
        x.list(3);
        nothingIsDecoded("new, but encoded and listed", x, 7, 2);
    }

    /** "nothing is decoded" behind field */
    private static void nothingDecodedBehindField() {
        for (int p : ONE_OF_EACH_SIZE) {
            RadiusDecoder x = busy();
            x.field(p);
            nothingIsDecoded("behind field(" + p + ")", x, mostPlaces(p), 2);
        }
    }

    /** "nothing is decoded" behind code */
    private static void nothingDecodedBehindCode() {
        for (int n = 4; n <= 7; n++) {
            RadiusDecoder x = busy();
            x.code(1, n, 3);
            nothingIsDecoded("behind code(1, " + n + ", 3)", x, n, 3);
        }
    }

    /** "then nothing is decoded" behind a decode that finds none, also as the first of all */
    private static void nothingDecodedBehindNone(int p, int kind, int n, int k) {
        String where = named(p, kind, n, k);
        for (boolean way : WAYS) {
            RadiusDecoder x = made(p, kind, n, k);
            receiveAll(x, farWord(p, kind, n, k));
            due(where + "far from all: decode", x.decode(way), NONE);
            nothingIsDecoded(where + "behind NONE", x, n, k);
            due(where + "encode(false)", x.encode(false), 0);
            due(where + "a codeword: decode", x.decode(way), 0);
            receiveAll(x, farWord(p, kind, n, k));
            due(where + "far from all: decode", x.decode(way), NONE);
            nothingIsDecoded(where + "behind NONE again", x, n, k);
        }
    }

    /** "(1 when there are none)" */
    private static void locatorOfNoneWrong(int p, int kind, int n, int k) {
        RadiusDecoder x = made(p, kind, n, k);
        String where = named(p, kind, n, k);
        receiveAll(x, codewordWithoutZero(p, kind, n));
        for (int erased = 0; erased <= n - k; erased++) {
            due(where + "decode(false)", x.decode(false), 0);
            due(where + "none wrong: locator(0)", x.locator(0), 1);
            allAre(where + "none wrong: locator(i + 1)", i -> x.locator(i + 1), n - k, 0);
            x.erase(erased);
        }
    }

    /** "the product of 1 - a(p) y over all places p": p the first place, and p the last one */
    private static void locatorAtTheEnds(int p, int kind, int n, int k) {
        if (n - k < 2) {
            return;
        }
        RadiusDecoder x = made(p, kind, n, k);
        String where = named(p, kind, n, k);
        for (int place : new int[] {0, n - 1}) {
            x.encode(false);
            x.receive(place, 1);
            due(where + "decode(true)", x.decode(true), 1);
            due(where + "locator(0)", x.locator(0), 1);
            due(where + "log(locator(1))", x.log(x.locator(1)), place);
            allAre(where + "locator(i + 2)", i -> x.locator(i + 2), n - k - 1, 0);
        }
    }

    /** The same with just HALF places wrong: its degree is HALF, and above that all are 0. */
    private static void locatorOfHalfWrong(int p, int kind, int n, int k) {
        RadiusDecoder x = made(p, kind, n, k);
        String where = named(p, kind, n, k);
        int half = (n - k) / 2;
        spoil(x, codewordWithoutZero(p, kind, n), n - half, half);
        due(where + "decode(true)", x.decode(true), half);
        int exponents = 0;
        for (int i = n - half; i < n; i++) {
            exponents += i;
        }
        due(where + "log(locator(HALF))", x.log(x.locator(half)), exponents % (size(p) - 1));
        due(where + "locator(0)", x.locator(0), 1);
        allAre(where + "locator(HALF + 1 + i)", i -> x.locator(half + 1 + i), n - k - half, 0);
    }

    /** "not erased, in which the codeword that is decoded and the word, as it was when that was decoded, have .." */
    private static void locatorOfTheWordAsItWas() {
        RadiusDecoder x = new RadiusDecoder();
        receiveAll(x, 5, 0, 0, 0, 0, 0, 7);
        due("erase(6)", x.erase(6), true);
        due("one wrong, one erased: decode(true)", x.decode(true), 1);
        locatorIsOfPlaceZero("at once", x);
        receiveAll(x, 0, 1, 1, 1, 1, 1, 1);
        locatorIsOfPlaceZero("other places wrong since", x);
        eraseFirst(x, 7);
        locatorIsOfPlaceZero("all erased since", x);
        due("refused: decode(true)", x.decode(true), MANY);
        locatorIsOfPlaceZero("decode refused since", x);
    }

    private static void locatorIsOfPlaceZero(String where, RadiusDecoder x) {
        due(where + ": locator(0)", x.locator(0), 1);
        due(where + ": locator(1)", x.locator(1), 1);
        allAre(where + ": locator(i + 2)", i -> x.locator(i + 2), 4, 0);
    }

    // Promises 17 to 19.

    /** "all codewords of a distance of at most the radius": just the radius, and one more, for each d */
    private static void justTheRadius(int p, int kind, int n, int k) {
        int[] codeword = codewordWithoutZero(p, kind, n);
        for (int d = k; d <= n; d++) {
            for (int s = 1; s <= 3; s++) {
                String where = named(p, kind, n, k) + d + " left: list(" + s + "): ";
                RadiusDecoder x = made(p, kind, n, k);
                eraseFirst(x, n - d);
                int radius = Math.max((d - k) / 2, d - 1 - bound(d, k, s) / s);
                spoil(x, codeword, n - d, radius);
                due(where + "any", x.list(s) > 0, true);
                due(where + "the zeros' distance", x.distance(0), radius);
                allAre(where + "listed(0, i)", i -> x.listed(0, i), n, 0);
                spoil(x, codeword, n - d, radius + 1);
                int count = x.list(s);
                for (int c = 0; c < count; c++) {
                    due(where + "the zeros are listed", areZeros(x, c, n), false);
                    due(where + "distance(" + c + ") is too great", x.distance(c) > radius, false);
                }
                due(where + "distance(count)", x.distance(count), BAD);
            }
        }
    }

    private static boolean areZeros(RadiusDecoder x, int c, int n) {
        boolean zeros = true;
        for (int i = 0; i < n; i++) {
            zeros &= x.listed(c, i) == 0;
        }
        return zeros;
    }

    /** "ordered by their elements at the first place in which two differ, the lesser element first" */
    private static void orderByAnErasedPlace() {
        RadiusDecoder x = new RadiusDecoder();
        // f = 3 y has 6 7 5 at the places 1 to 3, and 2 at place 5; f = 5 has 5 everywhere
        receiveAll(x, 0, 6, 7, 5, 5, 2, 5);
        eraseFirst(x, 1);
        due("place 0 erased: list(3)", x.list(3), 2);
        due("the lesser at the erased place: listed(0, 0)", x.listed(0, 0), 3);
        due("the lesser at the erased place: listed(1, 0)", x.listed(1, 0), 5);
        due("the other order at the next place: listed(0, 1)", x.listed(0, 1), 6);
        due("the other order at the next place: listed(1, 1)", x.listed(1, 1), 5);
        due("place 0 erased: distance(0)", x.distance(0), 2);
        due("place 0 erased: distance(1)", x.distance(1), 3);
    }

    /** "BAD when there is no such codeword or place"; "BAD when there is none" */
    private static void listEnds() {
        RadiusDecoder x = new RadiusDecoder();
        receiveAll(x, 0, 0, 0, 5, 5, 5, 5);
        due("list(3)", x.list(3), 2);
        badBeyond("listed(c, 0)", c -> x.listed(c, 0), 0, 1);
        badBeyond("listed(c, 6)", c -> x.listed(c, 6), 0, 1);
        badBeyond("listed(0, i)", i -> x.listed(0, i), 0, 6);
        badBeyond("listed(1, i)", i -> x.listed(1, i), 0, 6);
        badBeyond("distance(c)", c -> x.distance(c), 0, 1);
        due("listed(2, 7)", x.listed(2, 7), BAD);
        due("listed(-1, -1)", x.listed(-1, -1), BAD);
        due("listed(LEAST, MOST)", x.listed(LEAST, MOST), BAD);
        due("listed(MOST, LEAST)", x.listed(MOST, LEAST), BAD);
    }

    private static void listIsEmpty(String where, RadiusDecoder x) {
        for (int c : new int[] {0, 1, -1, LEAST, MOST}) {
            due(where + ": distance(" + c + ")", x.distance(c), BAD);
            due(where + ": listed(" + c + ", 0)", x.listed(c, 0), BAD);
        }
        due(where + ": listed(0, -1)", x.listed(0, -1), BAD);
        due(where + ": listed(0, 31)", x.listed(0, 31), BAD);
    }

    /** "the list is empty": on a new object */
    private static void emptyListAtFirst() {
        RadiusDecoder x = new RadiusDecoder();
        listIsEmpty("new", x);
        due("new: decode(true)", x.decode(true), 0);
        listIsEmpty("new, but decoded", x);
    }

    /** "the list is empty" behind field */
    private static void emptyListBehindField() {
        for (int p : ONE_OF_EACH_SIZE) {
            RadiusDecoder x = busy();
            x.field(p);
            listIsEmpty("behind field(" + p + ")", x);
        }
    }

    /** "the list is empty" behind code */
    private static void emptyListBehindCode() {
        for (int n = 4; n <= 7; n++) {
            RadiusDecoder x = busy();
            x.code(1, n, 3);
            listIsEmpty("behind code(1, " + n + ", 3)", x);
        }
    }

    /** "Answers how many there are": 0, also behind a list that was not empty */
    private static void emptyListBehindNoneFound() {
        RadiusDecoder x = busy();
        due("busy: distance(0)", x.distance(0), 1);
        receiveAll(x, farWord(13, 1, 7, 3));
        for (int s = 1; s <= 3; s++) {
            due("far from all: list(" + s + ")", x.list(s), 0);
            listIsEmpty("far from all", x);
        }
        due("far from all: what is decoded stays", x.decoded(0) >= 0, true);
    }

    /** "the LIST are these": those of the list before count no more */
    private static void shorterListBehindLonger() {
        RadiusDecoder x = new RadiusDecoder();
        receiveAll(x, 0, 0, 0, 5, 5, 5, 5);
        due("list(3)", x.list(3), 2);
        due("list(1) behind it", x.list(1), 1);
        due("distance(0)", x.distance(0), 3);
        due("listed(0, 0)", x.listed(0, 0), 5);
        due("distance(1)", x.distance(1), BAD);
        due("listed(1, 0)", x.listed(1, 0), BAD);
        due("list(3) behind it", x.list(3), 2);
        due("listed(1, 0)", x.listed(1, 0), 5);
    }

    /** "The distance that codeword c of the list had when it was found" */
    private static void distanceWhenFound() {
        RadiusDecoder x = new RadiusDecoder();
        receiveAll(x, 0, 0, 0, 5, 5, 5, 5);
        due("list(3)", x.list(3), 2);
        eraseFirst(x, 7);
        due("all erased since: distance(0)", x.distance(0), 4);
        due("all erased since: distance(1)", x.distance(1), 3);
        due("encode(false)", x.encode(false), 0);
        due("encoded since: distance(0)", x.distance(0), 4);
        due("encoded since: listed(1, 6)", x.listed(1, 6), 5);
    }

    // Promise 21.

    /** "The least weight of a polynomial in two, not 0": (y - f)^s, when the word is that of f */
    private static void weightOfACodeword(int p, int kind, int n, int k) {
        RadiusDecoder x = made(p, kind, n, k);
        weightsAre(named(p, kind, n, k) + "zeros", x, k - 1, 2 * (k - 1), 3 * (k - 1));
        receiveAll(x, codewordWithoutZero(p, kind, n));
        weightsAre(named(p, kind, n, k) + "a codeword", x, k - 1, 2 * (k - 1), 3 * (k - 1));
    }

    /** "all places that are not erased": with just k left, every word is one of a codeword */
    private static void weightOfJustEnough(int p, int kind, int n, int k) {
        RadiusDecoder x = made(p, kind, n, k);
        for (int i = 0; i < n; i++) {
            x.receive(i, (i * i + 1) % size(p));
        }
        eraseFirst(x, n - k);
        weightsAre(named(p, kind, n, k) + "k left", x, k - 1, 2 * (k - 1), 3 * (k - 1));
    }

    /** Three places not on a line: two lines meet them, three lines meet each twice, .. */
    private static void weightUpToTheBound() {
        RadiusDecoder x = made(13, 0, 3, 2);
        receiveAll(x, 0, 0, 5);
        weightsAre("no line", x, 2, 3, 5);
        due("the bound for 1", bound(3, 2, 1), 2);
        due("the bound for 2", bound(3, 2, 2), 3);
        due("the bound for 3", bound(3, 2, 3), 5);
    }

    private static void weightsAre(String where, RadiusDecoder x, int one, int two, int three) {
        due(where + ": weight(1)", x.weight(1), one);
        due(where + ": weight(2)", x.weight(2), two);
        due(where + ": weight(3)", x.weight(3), three);
    }

    // What it is.

    /** "An object is used for at most 512 calls after it has been made" */
    private static void lastCall() {
        RadiusDecoder x = new RadiusDecoder();
        int calls = 0;
        due("field(61)", x.field(61), 5);
        calls++;
        receiveAll(x, 0, 0, 0, 0, 0, 0, 0, 0, 0, 0, 9, 9, 9, 9, 9, 9, 9, 9, 9, 9);
        calls += 20;
        while (calls + 3 <= MOST_CALLS) {
            due("call " + calls + ": list(3)", x.list(3), 2);
            due("call " + calls + ": decode(true)", x.decode(true), NONE);
            due("call " + calls + ": weight(3)", x.weight(3), 6);
            calls += 3;
        }
        while (calls < MOST_CALLS) {
            due("call " + calls + ": distance(1)", x.distance(1), 10);
            calls++;
        }
    }
}
