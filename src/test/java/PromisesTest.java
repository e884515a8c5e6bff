/** Each promise of the document by examples worked out from its words, its edges, and its refusals. */
public final class PromisesTest {
    private static final int BAD = -1;
    private static final int NONE = -2;
    private static final int MANY = -3;
    private static final int LOOSE = -4;
    private static final int[] FAR = {-1, Integer.MIN_VALUE, Integer.MAX_VALUE};
    private static int wrong = 0;

    public static void main(String[] args) {
        newObject();
        field();
        fieldBeginsAnew();
        times();
        over();
        log();
        code();
        codeBeginsAnew();
        tell();
        encode();
        receive();
        erase();
        word();
        syndrome();
        decode();
        decodeWithErasures();
        decodedStays();
        sent();
        locator();
        list();
        listOrder();
        listStays();
        distance();
        radius();
        weight();
        tooManyErased();
        System.out.println(wrong == 0 ? "all answers are as due" : wrong + " answers are not as due");
        if (wrong != 0) {
            System.exit(1);
        }
    }

    private static void due(String call, long got, long want) {
        if (got != want) {
            wrong++;
            System.out.println(call + " answered " + got + ", due is " + want);
        }
    }

    private static void due(String call, boolean got, boolean want) {
        due(call, got ? 1 : 0, want ? 1 : 0);
    }

    private static void same(String what, String got, String want) {
        if (!got.equals(want)) {
            wrong++;
            System.out.println(what + ":\n  is  " + got + "\n  due " + want);
        }
    }

    private static RadiusDecoder made(int p, int kind, int n, int k) {
        RadiusDecoder x = new RadiusDecoder();
        due("field(" + p + ")", x.field(p), p < 16 ? 3 : p < 32 ? 4 : 5);
        due("code(" + kind + ", " + n + ", " + k + ")", x.code(kind, n, k), true);
        return x;
    }

    private static void receiveAll(RadiusDecoder x, int... elements) {
        for (int i = 0; i < elements.length; i++) {
            due("receive(" + i + ", " + elements[i] + ")", x.receive(i, elements[i]), true);
        }
    }

    private static void tellAll(RadiusDecoder x, int... elements) {
        for (int i = 0; i < elements.length; i++) {
            due("tell(" + i + ", " + elements[i] + ")", x.tell(i, elements[i]), true);
        }
    }

    private static void eraseAll(RadiusDecoder x, int... places) {
        for (int i : places) {
            due("erase(" + i + ")", x.erase(i), true);
        }
    }

    private static void wordIs(String what, RadiusDecoder x, int... elements) {
        for (int i = 0; i < elements.length; i++) {
            due(what + ": word(" + i + ")", x.word(i), elements[i]);
        }
        due(what + ": word(" + elements.length + ")", x.word(elements.length), BAD);
    }

    private static void listedIs(String what, RadiusDecoder x, int c, int... elements) {
        for (int i = 0; i < elements.length; i++) {
            due(what + ": listed(" + c + ", " + i + ")", x.listed(c, i), elements[i]);
        }
    }

    /** All that can be seen of an object without a change, but for its message. */
    private static String state(RadiusDecoder x) {
        StringBuilder text = new StringBuilder();
        text.append(x.times(7, 7)).append(' ').append(x.log(3));
        for (int i = 0; i <= 20; i++) {
            text.append(" | ").append(x.word(i)).append(' ').append(x.syndrome(i));
            text.append(' ').append(x.decoded(i)).append(' ').append(x.sent(i));
            text.append(' ').append(x.locator(i)).append(' ').append(x.distance(i));
        }
        for (int c = 0; c < 4; c++) {
            for (int i = 0; i < 7; i++) {
                text.append(' ').append(x.listed(c, i));
            }
        }
        return text.toString();
    }

    /** An object of which nothing is as at first: word, erased places, what is decoded, list, message. */
    private static RadiusDecoder busy() {
        RadiusDecoder x = made(13, 1, 7, 3);
        tellAll(x, 5, 0, 6);
        x.encode(true);
        receiveAll(x, 1);
        due("a busy object: decode(true)", x.decode(true), 1);
        due("a busy object: list(2)", x.list(2), 1);
        eraseAll(x, 2);
        return x;
    }

    private static void nothingIsFound(String what, RadiusDecoder x) {
        due(what + ": decoded(0)", x.decoded(0), NONE);
        due(what + ": sent(0)", x.sent(0), NONE);
        due(what + ": locator(0)", x.locator(0), NONE);
        due(what + ": distance(0)", x.distance(0), BAD);
        due(what + ": listed(0, 0)", x.listed(0, 0), BAD);
    }

    private static void newObject() {
        RadiusDecoder x = new RadiusDecoder();
        wordIs("new", x, 0, 0, 0, 0, 0, 0, 0);
        nothingIsFound("new", x);
        due("new: log(3)", x.log(3), 3);
        due("new: log(7)", x.log(7), 5);
        due("new: times(8, 1)", x.times(8, 1), BAD);
        due("new: encode(false)", x.encode(false), 0);
        due("new: tell(2, 1)", x.tell(2, 1), false);
        due("new: tell(1, 1)", x.tell(1, 1), true);
        due("new: encode(false)", x.encode(false), 7);
        wordIs("new, f(y) = y", x, 1, 2, 4, 3, 6, 7, 5);
    }

    private static void field() {
        int[] primitive = {11, 13, 19, 25, 37, 41, 47, 55, 59, 61};
        for (int p = 8; p < 64; p++) {
            int want = LOOSE;
            for (int q : primitive) {
                if (p == q) {
                    want = p < 16 ? 3 : p < 32 ? 4 : 5;
                }
            }
            due("field(" + p + ")", new RadiusDecoder().field(p), want);
        }
        RadiusDecoder x = busy();
        String before = state(x);
        for (int p : new int[] {7, 64, 0, -11, 75, -1, Integer.MIN_VALUE, Integer.MAX_VALUE}) {
            due("field(" + p + ")", x.field(p), BAD);
        }
        for (int p : new int[] {8, 15, 16, 31, 32, 63, 21}) {
            due("field(" + p + ")", x.field(p), LOOSE);
        }
        same("after refused fields", state(x), before);
        due("after refused fields: encode(true)", x.encode(true), 6);
    }

    private static void fieldBeginsAnew() {
        RadiusDecoder x = busy();
        due("field(19)", x.field(19), 4);
        wordIs("after field(19)", x, new int[15]);
        nothingIsFound("after field(19)", x);
        due("after field(19): tell(2, 1)", x.tell(2, 1), false);
        due("after field(19): encode(false)", x.encode(false), 0);
        due("after field(19): tell(1, 1)", x.tell(1, 1), true);
        due("after field(19): encode(false)", x.encode(false), 15);
        wordIs("f(y) = y", x, 1, 2, 4, 8, 3, 6, 12, 11, 5, 10, 7, 14, 15, 13, 9);
        due("field(37)", x.field(37), 5);
        wordIs("after field(37)", x, new int[20]);
        due("field(13)", x.field(13), 3);
        wordIs("after field(13)", x, new int[7]);
        due("after field(13): log(5)", x.log(5), 3);
        due("after field(13): times(7, 8)", x.times(7, 8), BAD);
    }

    private static void times() {
        RadiusDecoder x = new RadiusDecoder();
        due("times(3, 5)", x.times(3, 5), 4);
        due("times(7, 7)", x.times(7, 7), 3);
        due("times(0, 7)", x.times(0, 7), 0);
        due("times(7, 0)", x.times(7, 0), 0);
        due("times(1, 6)", x.times(1, 6), 6);
        due("times(8, 0)", x.times(8, 0), BAD);
        due("times(0, 8)", x.times(0, 8), BAD);
        for (int far : FAR) {
            due("times(" + far + ", 1)", x.times(far, 1), BAD);
            due("times(1, " + far + ")", x.times(1, far), BAD);
        }
        due("field(19)", x.field(19), 4);
        due("times(9, 13) by 19", x.times(9, 13), 15);
        due("times(16, 1) by 19", x.times(16, 1), BAD);
        due("field(37)", x.field(37), 5);
        due("times(31, 31) by 37", x.times(31, 31), 18);
        due("times(32, 1) by 37", x.times(32, 1), BAD);
    }

    private static void over() {
        RadiusDecoder x = new RadiusDecoder();
        due("over(1, 2)", x.over(1, 2), 5);
        due("over(4, 5)", x.over(4, 5), 3);
        due("over(0, 3)", x.over(0, 3), 0);
        due("over(3, 0)", x.over(3, 0), NONE);
        due("over(0, 0)", x.over(0, 0), NONE);
        due("over(8, 0)", x.over(8, 0), BAD);
        due("over(1, 8)", x.over(1, 8), BAD);
        for (int far : FAR) {
            due("over(" + far + ", 0)", x.over(far, 0), BAD);
            due("over(1, " + far + ")", x.over(1, far), BAD);
        }
        due("field(19)", x.field(19), 4);
        due("over(7, 12) by 19", x.over(7, 12), 3);
        due("field(37)", x.field(37), 5);
        due("over(1, 31) by 37", x.over(1, 31), 27);
        for (int a = 0; a < 32; a++) {
            x = made(37, 0, 20, 2);
            for (int b = 1; b < 32; b++) {
                due("over(times(" + a + ", " + b + "), " + b + ")", x.over(x.times(a, b), b), a);
            }
        }
    }

    private static void log() {
        RadiusDecoder x = new RadiusDecoder();
        int[] powers = {1, 2, 4, 3, 6, 7, 5};
        for (int e = 0; e < 7; e++) {
            due("log(" + powers[e] + ")", x.log(powers[e]), e);
        }
        due("log(0)", x.log(0), NONE);
        due("log(8)", x.log(8), BAD);
        for (int far : FAR) {
            due("log(" + far + ")", x.log(far), BAD);
        }
        due("field(37)", x.field(37), 5);
        due("log(18) by 37", x.log(18), 30);
        due("log(31) by 37", x.log(31), 15);
        due("log(32) by 37", x.log(32), BAD);
    }

    private static void code() {
        RadiusDecoder x = busy();
        String before = state(x);
        int[][] refused = {
            {-1, 7, 2}, {2, 7, 2}, {0, 8, 2}, {0, 7, 1}, {0, 7, 5}, {0, 3, 3}, {0, 2, 2}, {0, 0, 2},
            {1, 7, 0}, {1, 7, -2}, {1, -7, 2}, {1, 4, 6}, {0, Integer.MAX_VALUE, 2},
            {0, Integer.MIN_VALUE, Integer.MIN_VALUE}, {Integer.MIN_VALUE, 7, 2}, {0, 7, 1 << 30},
            {0, Integer.MAX_VALUE, 1431655766}};
        for (int[] c : refused) {
            due("code(" + c[0] + ", " + c[1] + ", " + c[2] + ")", x.code(c[0], c[1], c[2]), false);
        }
        same("after refused codes", state(x), before);
        due("after refused codes: encode(true)", x.encode(true), 6);
        due("code(0, 3, 2)", x.code(0, 3, 2), true);
        due("code(1, 5, 4)", x.code(1, 5, 4), true);
        due("field(19)", x.field(19), 4);
        due("code(0, 15, 3)", x.code(0, 15, 3), true);
        due("code(0, 15, 4)", x.code(0, 15, 4), false);
        due("code(0, 16, 3)", x.code(0, 16, 3), false);
        due("field(37)", x.field(37), 5);
        due("code(1, 20, 2)", x.code(1, 20, 2), true);
        due("code(1, 21, 2)", x.code(1, 21, 2), false);
        due("code(1, 20, 3)", x.code(1, 20, 3), false);
    }

    private static void codeBeginsAnew() {
        RadiusDecoder x = busy();
        due("code(1, 7, 3)", x.code(1, 7, 3), true);
        wordIs("after code", x, new int[7]);
        nothingIsFound("after code", x);
        due("after code: encode(true)", x.encode(true), 0);
        due("after code: log(5)", x.log(5), 3);
        due("code(0, 6, 2)", x.code(0, 6, 2), true);
        wordIs("after a shorter code", x, new int[6]);
    }

    private static void tell() {
        RadiusDecoder x = made(11, 0, 7, 3);
        due("tell(2, 7)", x.tell(2, 7), true);
        String before = state(x);
        due("tell(3, 1)", x.tell(3, 1), false);
        due("tell(2, 8)", x.tell(2, 8), false);
        for (int far : FAR) {
            due("tell(" + far + ", 1)", x.tell(far, 1), false);
            due("tell(2, " + far + ")", x.tell(2, far), false);
        }
        same("after refused tells", state(x), before);
        due("encode(true)", x.encode(true), 5);
        due("word(4)", x.word(4), 0);
        due("word(5)", x.word(5), 0);
        due("word(6)", x.word(6), 7);
        due("tell(2, 0)", x.tell(2, 0), true);
        due("the word does not follow the message: word(6)", x.word(6), 7);
        due("encode(false)", x.encode(false), 0);
    }

    private static void encode() {
        RadiusDecoder x = made(11, 0, 6, 3);
        tellAll(x, 1, 2, 3);
        eraseAll(x, 0, 1, 2, 3, 4, 5);
        due("kind 0: encode(false)", x.encode(false), 4);
        wordIs("kind 0 plainly", x, 0, 2, 3, 3, 0, 1);
        tellAll(x, 4, 0, 7);
        eraseAll(x, 5);
        due("kind 0: encode(true)", x.encode(true), 5);
        wordIs("kind 0 systematically", x, 7, 3, 3, 4, 0, 7);
        x = made(11, 1, 6, 3);
        tellAll(x, 1, 2, 3);
        eraseAll(x, 3);
        due("kind 1: encode(false)", x.encode(false), 6);
        wordIs("kind 1 plainly", x, 5, 3, 5, 6, 6, 3);
        tellAll(x, 4, 0, 7);
        due("kind 1: encode(true)", x.encode(true), 4);
        wordIs("kind 1 systematically", x, 1, 7, 0, 4, 0, 7);
        due("again: encode(true)", x.encode(true), 4);
        x = busy();
        due("encode leaves what is decoded: decoded(0)", x.decoded(0) >= 0, true);
        String found = x.decoded(0) + " " + x.locator(1) + " " + x.sent(2) + " " + x.listed(0, 0) + " " + x.distance(0);
        x.encode(false);
        same("encode leaves what is found", x.decoded(0) + " " + x.locator(1) + " " + x.sent(2) + " "
                + x.listed(0, 0) + " " + x.distance(0), found);
    }

    private static void receive() {
        RadiusDecoder x = busy();
        String before = state(x);
        due("receive(7, 1)", x.receive(7, 1), false);
        due("receive(2, 8)", x.receive(2, 8), false);
        for (int far : FAR) {
            due("receive(" + far + ", 1)", x.receive(far, 1), false);
            due("receive(2, " + far + ")", x.receive(2, far), false);
        }
        same("after refused receives", state(x), before);
        due("word(2) erased", x.word(2), NONE);
        due("receive(2, 7)", x.receive(2, 7), true);
        due("word(2)", x.word(2), 7);
        due("receive(2, 0)", x.receive(2, 0), true);
        due("word(2)", x.word(2), 0);
        due("receive(6, 3)", x.receive(6, 3), true);
        due("word(6)", x.word(6), 3);
    }

    private static void erase() {
        RadiusDecoder x = busy();
        String before = state(x);
        due("erase(2) again", x.erase(2), false);
        due("erase(7)", x.erase(7), false);
        for (int far : FAR) {
            due("erase(" + far + ")", x.erase(far), false);
        }
        same("after refused erases", state(x), before);
        eraseAll(x, 0, 1, 3, 4, 5, 6);
        wordIs("all erased", x, NONE, NONE, NONE, NONE, NONE, NONE, NONE);
        due("syndrome(0) of nothing", x.syndrome(0), 0);
        due("receive(3, 1)", x.receive(3, 1), true);
        due("erase(3)", x.erase(3), true);
    }

    private static void word() {
        RadiusDecoder x = made(11, 0, 6, 3);
        receiveAll(x, 1, 2, 3, 4, 5, 6);
        wordIs("word", x, 1, 2, 3, 4, 5, 6);
        eraseAll(x, 5);
        due("word(5)", x.word(5), NONE);
        due("word(6)", x.word(6), BAD);
        for (int far : FAR) {
            due("word(" + far + ")", x.word(far), BAD);
        }
    }

    private static void syndromesAre(String what, RadiusDecoder x, int... sums) {
        for (int j = 0; j < sums.length; j++) {
            due(what + ": syndrome(" + j + ")", x.syndrome(j), sums[j]);
        }
        due(what + ": syndrome(" + sums.length + ")", x.syndrome(sums.length), BAD);
        for (int far : FAR) {
            due(what + ": syndrome(" + far + ")", x.syndrome(far), BAD);
        }
    }

    private static void syndrome() {
        for (int kind = 0; kind < 2; kind++) {
            RadiusDecoder x = made(11, kind, 6, 3);
            receiveAll(x, 1, 2, 3, 4, 5, 6);
            syndromesAre("kind " + kind, x, kind == 0 ? new int[] {0, 1, 2} : new int[] {2, 1, 4});
            eraseAll(x, 2);
            syndromesAre("one erased, kind " + kind, x, kind == 0 ? new int[] {7, 0, 6} : new int[] {5, 0, 0});
            tellAll(x, 3, 7, 1);
            x.encode(true);
            syndromesAre("a codeword, kind " + kind, x, 0, 0, 0);
        }
    }

    private static void decode() {
        for (int way = 0; way < 2; way++) {
            boolean byRemainders = way == 1;
            String what = "decode(" + byRemainders + ")";
            RadiusDecoder x = new RadiusDecoder();
            due(what + " of the zeros", x.decode(byRemainders), 0);
            receiveAll(x, 5, 5, 0, 5, 5, 0, 5);
            due(what + ", HALF wrong", x.decode(byRemainders), 2);
            for (int i = 0; i < 7; i++) {
                due(what + ": decoded(" + i + ")", x.decoded(i), 5);
            }
            due("decoded(7)", x.decoded(7), BAD);
            due("decode leaves the word: word(2)", x.word(2), 0);
            receiveAll(x, 0, 0, 0);
            due(what + ", one more wrong", x.decode(byRemainders), NONE);
            due("decoded(0) after NONE", x.decoded(0), NONE);
            due("sent(0) after NONE", x.sent(0), NONE);
            due("locator(0) after NONE", x.locator(0), NONE);
            due("decoded(7) after NONE", x.decoded(7), BAD);
            due("sent(2) after NONE", x.sent(2), BAD);
            due("locator(6) after NONE", x.locator(6), BAD);
        }
    }

    private static void decodeWithErasures() {
        for (int kind = 0; kind < 2; kind++) {
            RadiusDecoder x = made(19, kind, 15, 3);
            tellAll(x, 7, 0, 12);
            x.encode(false);
            int ninth = x.word(9);
            receiveAll(x, x.word(0) ^ 1, x.word(1) ^ 9, x.word(2) ^ 15, x.word(3) ^ 4);
            eraseAll(x, 6, 9, 12, 14);
            due("four wrong, four erased", x.decode(true), 4);
            due("decoded(9)", x.decoded(9), ninth);
            due("sent(0)", x.sent(0), 7);
            due("sent(1)", x.sent(1), 0);
            due("sent(2)", x.sent(2), 12);
            eraseAll(x, 4);
            due("HALF is rounded down", x.decode(false), NONE);
            receiveAll(x, x.word(0) ^ 1);
            due("three wrong, five erased", x.decode(false), 3);
            eraseAll(x, 1, 2, 3, 5, 7, 8, 10);
            due("only k left", x.decode(true), 0);
            due("sent(2)", x.sent(2), 12);
        }
    }

    private static void decodedStays() {
        RadiusDecoder x = new RadiusDecoder();
        receiveAll(x, 5, 5, 0, 5, 5, 0, 5);
        due("decode(false)", x.decode(false), 2);
        receiveAll(x, 0, 0, 0, 0, 0, 0, 0);
        eraseAll(x, 2, 5);
        due("list(1)", x.list(1), 1);
        due("tell(0, 1)", x.tell(0, 1), true);
        due("decoded(0) of a word that changed", x.decoded(0), 5);
        due("sent(0) of a word that changed", x.sent(0), 5);
        due("locator(1) of a word that changed", x.locator(1), 4 ^ 7);
        due("locator(2) of a word that changed", x.locator(2), 1);
        for (int far : FAR) {
            due("decoded(" + far + ")", x.decoded(far), BAD);
        }
    }

    private static void sent() {
        for (int kind = 0; kind < 2; kind++) {
            RadiusDecoder x = made(11, kind, 6, 3);
            receiveAll(x, kind == 0 ? new int[] {7, 3, 3, 4, 0, 7} : new int[] {1, 7, 0, 4, 0, 7});
            due("sent(0), nothing decoded", x.sent(0), NONE);
            due("decode(true)", x.decode(true), 0);
            int[] told = kind == 0 ? new int[] {0, 6, 1} : new int[] {2, 6, 7};
            for (int i = 0; i < 3; i++) {
                due("kind " + kind + ": sent(" + i + ")", x.sent(i), told[i]);
            }
            due("sent(3)", x.sent(3), BAD);
            for (int far : FAR) {
                due("sent(" + far + ")", x.sent(far), BAD);
            }
        }
    }

    private static void locator() {
        RadiusDecoder x = new RadiusDecoder();
        due("locator(0), nothing decoded", x.locator(0), NONE);
        due("decode(true)", x.decode(true), 0);
        int[] none = {1, 0, 0, 0, 0, 0, BAD};
        for (int i = 0; i < none.length; i++) {
            due("none wrong: locator(" + i + ")", x.locator(i), none[i]);
        }
        receiveAll(x, 0, 1, 0, 5, 0, 0, 6);
        eraseAll(x, 3);
        due("decode(true)", x.decode(true), 2);
        // (1 - 2 y) (1 - 5 y), without the erased place
        int[] two = {1, 7, 1, 0, 0, 0, BAD};
        for (int i = 0; i < two.length; i++) {
            due("two wrong: locator(" + i + ")", x.locator(i), two[i]);
        }
        for (int far : FAR) {
            due("locator(" + far + ")", x.locator(far), BAD);
        }
    }

    private static void list() {
        RadiusDecoder x = new RadiusDecoder();
        receiveAll(x, 6, 0, 1, 4, 2, 6, 4);
        due("list(1)", x.list(1), 0);
        due("list(2)", x.list(2), 0);
        due("list(3)", x.list(3), 2);
        String before = state(x);
        for (int s : new int[] {0, 4, -1, Integer.MIN_VALUE, Integer.MAX_VALUE}) {
            due("list(" + s + ")", x.list(s), BAD);
        }
        same("after refused lists", state(x), before);
        due("list leaves what is decoded: decoded(0)", x.decoded(0), NONE);
        listedIs("list(3)", x, 0, 3, 4, 1, 0, 2, 6, 5);
        listedIs("list(3)", x, 1, 6, 2, 1, 7, 0, 5, 4);
        due("listed(2, 0)", x.listed(2, 0), BAD);
        due("listed(0, 7)", x.listed(0, 7), BAD);
        for (int far : FAR) {
            due("listed(" + far + ", 0)", x.listed(far, 0), BAD);
            due("listed(0, " + far + ")", x.listed(0, far), BAD);
        }
        due("list(1)", x.list(1), 0);
        due("listed(0, 0) of an empty list", x.listed(0, 0), BAD);
    }

    private static void listOrder() {
        RadiusDecoder x = made(11, 1, 6, 2);
        receiveAll(x, 0, 0, 0, 5, 5, 5);
        due("list(1)", x.list(1), 0);
        due("list(2)", x.list(2), 3);
        listedIs("kind 1", x, 0, 0, 0, 0, 0, 0, 0);
        listedIs("kind 1", x, 1, 0, 4, 1, 5, 4, 5);
        listedIs("kind 1", x, 2, 3, 6, 0, 6, 5, 5);
        due("code(0, 6, 2)", x.code(0, 6, 2), true);
        receiveAll(x, 0, 0, 0, 5, 5, 5);
        due("list(3)", x.list(3), 2);
        listedIs("kind 0", x, 0, 0, 0, 0, 0, 0, 0);
        listedIs("kind 0", x, 1, 5, 5, 5, 5, 5, 5);
        eraseAll(x, 0, 1, 3, 4);
        due("two places left: list(3)", x.list(3), 1);
        due("two places left: distance(0)", x.distance(0), 0);
        due("two places left: listed(0, 2)", x.listed(0, 2), 0);
        due("two places left: listed(0, 5)", x.listed(0, 5), 5);
        x = made(11, 0, 7, 4);
        receiveAll(x, 0, 0, 0, 6, 3, 6, 0);
        due("k 4: list(2)", x.list(2), 3);
        listedIs("k 4", x, 0, 0, 0, 0, 6, 5, 6, 7);
        listedIs("k 4", x, 1, 0, 0, 3, 7, 3, 6, 0);
        listedIs("k 4", x, 2, 0, 5, 0, 6, 3, 4, 0);
    }

    private static void listStays() {
        RadiusDecoder x = new RadiusDecoder();
        receiveAll(x, 0, 0, 0, 5, 5, 5, 5);
        due("list(3)", x.list(3), 2);
        receiveAll(x, 7, 7, 7, 7, 7, 7, 7);
        eraseAll(x, 0);
        due("decode(true)", x.decode(true), 0);
        listedIs("a word that changed", x, 1, 5, 5, 5, 5, 5, 5, 5);
        due("distance(0) of a word that changed", x.distance(0), 4);
        due("distance(1) of a word that changed", x.distance(1), 3);
    }

    private static void distance() {
        RadiusDecoder x = new RadiusDecoder();
        due("distance(0), no list", x.distance(0), BAD);
        receiveAll(x, 1, 1, 2, 2, 3, 3, 4);
        due("list(3)", x.list(3), 2);
        due("distance(0)", x.distance(0), 3);
        due("distance(1)", x.distance(1), 4);
        due("distance(2)", x.distance(2), BAD);
        for (int far : FAR) {
            due("distance(" + far + ")", x.distance(far), BAD);
        }
        eraseAll(x, 1, 3);
        due("an erased place counts not: list(3)", x.list(3) > 0, true);
        due("an erased place counts not: distance(0)", x.distance(0), 1);
    }

    private static void radiusIs(RadiusDecoder x, String what, int one, int two, int three) {
        due(what + ": radius(1)", x.radius(1), one);
        due(what + ": radius(2)", x.radius(2), two);
        due(what + ": radius(3)", x.radius(3), three);
        for (int s : new int[] {0, 4, -1, Integer.MIN_VALUE, Integer.MAX_VALUE}) {
            due(what + ": radius(" + s + ")", x.radius(s), BAD);
        }
    }

    private static void radius() {
        radiusIs(made(11, 0, 7, 2), "n 7 k 2", 3, 3, 4);
        radiusIs(made(11, 1, 6, 2), "n 6 k 2", 2, 3, 3);
        radiusIs(made(11, 0, 7, 3), "n 7 k 3", 2, 2, 2);
        radiusIs(made(11, 1, 7, 4), "n 7 k 4", 1, 2, 2);
        radiusIs(made(19, 0, 15, 2), "n 15 k 2", 9, 10, 10);
        radiusIs(made(19, 1, 15, 3), "n 15 k 3", 8, 8, 8);
        radiusIs(made(37, 0, 20, 2), "n 20 k 2", 14, 14, 14);
        RadiusDecoder x = made(11, 0, 7, 2);
        eraseAll(x, 4);
        radiusIs(x, "one erased", 2, 3, 3);
        eraseAll(x, 0, 1, 2, 3);
        radiusIs(x, "two left", 0, 0, 0);
    }

    private static void weightIs(RadiusDecoder x, String what, int one, int two, int three) {
        due(what + ": weight(1)", x.weight(1), one);
        due(what + ": weight(2)", x.weight(2), two);
        due(what + ": weight(3)", x.weight(3), three);
        for (int s : new int[] {0, 4, -1, Integer.MIN_VALUE, Integer.MAX_VALUE}) {
            due(what + ": weight(" + s + ")", x.weight(s), BAD);
        }
    }

    private static void weight() {
        RadiusDecoder x = new RadiusDecoder();
        weightIs(x, "the zeros", 1, 2, 3);
        receiveAll(x, 6, 2, 1, 7, 0, 6, 4);
        weightIs(x, "a codeword with one place wrong", 2, 4, 6);
        eraseAll(x, 5);
        weightIs(x, "that place erased", 1, 2, 3);
        for (int kind = 0; kind < 2; kind++) {
            x = made(11, kind, 6, 3);
            tellAll(x, 4, 0, 7);
            x.encode(true);
            weightIs(x, "a codeword of kind " + kind, 2, 4, 6);
        }
        x = made(11, 0, 5, 4);
        receiveAll(x, 0, 0, 5, 0, 0);
        due("no codeword near: weight(1)", x.weight(1), 4);
        due("no codeword near: weight(2)", x.weight(2), 8);
        x = made(37, 0, 20, 2);
        receiveAll(x, 0, 1, 2, 3, 4, 5, 6, 7, 8, 9, 10);
        String before = state(x);
        due("a long word: weight(3)", x.weight(3) <= 15, true);
        same("weight and radius change nothing", state(x), before);
    }

    private static void tooManyErased() {
        RadiusDecoder x = busy();
        eraseAll(x, 0, 1, 3);
        due("n - k erased: decode(true)", x.decode(true), 0);
        due("n - k erased: list(3)", x.list(3), 1);
        eraseAll(x, 4);
        String before = state(x);
        due("decode(true)", x.decode(true), MANY);
        due("decode(false)", x.decode(false), MANY);
        for (int s = 1; s <= 3; s++) {
            due("list(" + s + ")", x.list(s), MANY);
            due("radius(" + s + ")", x.radius(s), MANY);
            due("weight(" + s + ")", x.weight(s), MANY);
        }
        due("list(0)", x.list(0), BAD);
        due("radius(4)", x.radius(4), BAD);
        due("weight(-1)", x.weight(-1), BAD);
        same("after too many were erased", state(x), before);
        due("receive(4, 1)", x.receive(4, 1), true);
        due("n - k erased again: decode(true)", x.decode(true), 0);
    }
}
