import java.util.ArrayList;
import java.util.List;
import java.util.function.Supplier;
import java.util.function.ToIntFunction;

/**
 * "Refusals: BAD first, then MANY, where both are named; .. A refused call changes nothing." Each call
 * that can be refused is made in objects of several states, and all that can then be seen of the
 * object is held against a twin that was not asked. A call that answers false counts as 0 here.
 */
public final class RefusalsTest {
    private static final int BAD = -1;
    private static final int NONE = -2;
    private static final int MANY = -3;
    private static final int LOOSE = -4;
    private static final int FALSE = 0;
    private static final int LEAST = Integer.MIN_VALUE;
    private static final int MOST = Integer.MAX_VALUE;
    private static int wrong = 0;

    /** A call that is refused, and what it must answer. */
    private record Refused(String call, ToIntFunction<RadiusDecoder> made, int want) {
    }

    /** An object that can be made again and again, and what decides which calls it refuses. */
    private record State(String name, Supplier<RadiusDecoder> maker, int size, int n, int k, int found) {
    }

    /** A call with one number. */
    private interface Asked {
        int at(RadiusDecoder x, int i);
    }

    public static void main(String[] args) {
        State fresh = new State("new", RadiusDecoder::new, 8, 7, 2, 0);
        State busy = new State("busy", RefusalsTest::busy, 8, 7, 3, 1);
        State wide = new State("wide", RefusalsTest::wide, 32, 20, 2, 3);
        State undone = new State("undone", RefusalsTest::undone, 16, 15, 3, 0);
        State crowded = new State("crowded", RefusalsTest::crowded, 8, 7, 3, 1);
        State bare = new State("bare", RefusalsTest::bare, 8, 7, 3, 1);
        for (State state : List.of(fresh, busy, wide, undone, crowded, bare)) {
            changeNothing(state, refusedAlways(state));
        }
        changeNothing(fresh, refusedWhenNothingIsFound());
        changeNothing(undone, refusedWhenNothingIsFound());
        changeNothing(busy, refusedWhenErased(2));
        changeNothing(wide, refusedWhenErased(19));
        changeNothing(bare, refusedWhenErased(0));
        changeNothing(crowded, refusedWhenManyAreErased());
        changeNothing(bare, refusedWhenManyAreErased());
        badBeforeMany();
        badBeforeNone();
        badBeforeLoose();
        statesDiffer(List.of(fresh, busy, wide, undone, crowded, bare));
        System.out.println(wrong == 0 ? "all answers are as due" : wrong + " answers are not as due");
        if (wrong != 0) {
            System.exit(1);
        }
    }

    private static void due(String call, long got, long want) {
        if (got != want) {
            wrong++;
            System.out.println(call + " answered " + got + ", due is " + want);
        }
    }

    private static void due(String call, boolean got, boolean want) {
        due(call, got ? 1 : 0, want ? 1 : 0);
    }

    private static int number(boolean answer) {
        return answer ? 1 : 0;
    }

    // The states.

    private static void receiveAll(RadiusDecoder x, int... elements) {
        for (int i = 0; i < elements.length; i++) {
            due("receive(" + i + ", " + elements[i] + ")", x.receive(i, elements[i]), true);
        }
    }

    /** A message, a decoded codeword with a wrong place, a list, and place 2 erased, in a code of kind 1. */
    private static RadiusDecoder busy() {
        RadiusDecoder x = new RadiusDecoder();
        due("busy: field(13)", x.field(13), 3);
        due("busy: code(1, 7, 3)", x.code(1, 7, 3), true);
        for (int i = 0; i < 3; i++) {
            due("busy: tell(" + i + ", ..)", x.tell(i, 5 - i), true);
        }
        due("busy: encode(true)", x.encode(true) > 0, true);
        due("busy: receive(0, ..)", x.receive(0, x.word(0) ^ 3), true);
        due("busy: decode(true)", x.decode(true), 1);
        due("busy: list(2)", x.list(2), 1);
        due("busy: erase(2)", x.erase(2), true);
        return x;
    }

    /** Three codewords in the list, and another one decoded, in the longest code; place 19 is erased. */
    private static RadiusDecoder wide() {
        RadiusDecoder x = new RadiusDecoder();
        due("wide: field(61)", x.field(61), 5);
        receiveAll(x, 17, 17, 17, 17, 17, 17, 17, 9, 9, 9, 9, 9, 9, 9, 30, 30, 30, 30, 30, 30);
        due("wide: list(3)", x.list(3), 3);
        due("wide: tell(0, 31)", x.tell(0, 31), true);
        due("wide: tell(1, 4)", x.tell(1, 4), true);
        due("wide: encode(false)", x.encode(false) > 0, true);
        receiveAll(x, 0, 31, 1);
        due("wide: decode(false)", x.decode(false), 3);
        due("wide: erase(19)", x.erase(19), true);
        return x;
    }

    /** A decode that found none behind one that found some, and likewise a list. */
    private static RadiusDecoder undone() {
        RadiusDecoder x = new RadiusDecoder();
        due("undone: field(25)", x.field(25), 4);
        due("undone: code(0, 15, 3)", x.code(0, 15, 3), true);
        due("undone: tell(2, 15)", x.tell(2, 15), true);
        due("undone: decode(true)", x.decode(true), 0);
        due("undone: list(1)", x.list(1), 1);
        // f(y) = y^3 has no more than three places in common with a codeword
        int point = 1;
        for (int i = 0; i < 15; i++) {
            due("undone: receive(" + i + ", ..)", x.receive(i, x.times(point, x.times(point, point))), true);
            point = x.times(2, point);
        }
        due("undone: decode(true), far from all", x.decode(true), NONE);
        due("undone: list(3), far from all", x.list(3), 0);
        return x;
    }

    /** One place more is erased than may be, while something is decoded and listed. */
    private static RadiusDecoder crowded() {
        RadiusDecoder x = busy();
        for (int i = 3; i < 7; i++) {
            due("crowded: erase(" + i + ")", x.erase(i), true);
        }
        return x;
    }

    private static RadiusDecoder bare() {
        RadiusDecoder x = crowded();
        due("bare: erase(0)", x.erase(0), true);
        due("bare: erase(1)", x.erase(1), true);
        return x;
    }

    // What can be seen of an object.

    private static String seen(RadiusDecoder x) {
        StringBuilder text = new StringBuilder();
        for (int v : new int[] {4, 7, 8, 15, 16, 31}) {
            text.append(x.times(v, 2)).append(' ');
        }
        for (int i = 0; i <= 20; i++) {
            text.append("| ").append(x.word(i)).append(' ').append(x.syndrome(i)).append(' ');
            text.append(x.decoded(i)).append(' ').append(x.sent(i)).append(' ').append(x.locator(i)).append(' ');
        }
        for (int c = 0; c <= 3; c++) {
            text.append("| ").append(x.distance(c)).append(' ');
            for (int i = 0; i <= 20; i++) {
                text.append(x.listed(c, i)).append(' ');
            }
        }
        for (int s = 1; s <= 3; s++) {
            text.append("| ").append(x.radius(s)).append(' ').append(x.weight(s)).append(' ');
        }
        return text.append(seenByEncoding(x)).toString();
    }

    /** Comes last, as it changes the word: by the message, by the kind and by what is found then. */
    private static String seenByEncoding(RadiusDecoder x) {
        StringBuilder text = new StringBuilder();
        text.append("| ").append(x.decode(true)).append(' ').append(x.list(3)).append(' ');
        for (int way = 0; way < 2; way++) {
            text.append("| ").append(x.encode(way == 1)).append(' ');
            for (int i = 0; i <= 20; i++) {
                text.append(x.word(i)).append(' ');
            }
        }
        return text.toString();
    }

    private static void sameAs(String what, String got, String want) {
        if (!got.equals(want)) {
            wrong++;
            System.out.println(what + " changed something:\n  is  " + got + "\n  due " + want);
        }
    }

    // What is refused.

    private static void changeNothing(State state, List<Refused> calls) {
        String want = seen(state.maker().get());
        RadiusDecoder all = state.maker().get();
        for (Refused refused : calls) {
            RadiusDecoder x = state.maker().get();
            String name = state.name() + ": " + refused.call();
            due(name, refused.made().applyAsInt(x), refused.want());
            sameAs(name, seen(x), want);
            due(name + ", behind others", refused.made().applyAsInt(all), refused.want());
        }
        sameAs(state.name() + ": all refused calls", seen(all), want);
    }

    private static List<Refused> refusedAlways(State state) {
        List<Refused> calls = new ArrayList<>();
        addField(calls);
        addElements(calls, state.size());
        addCode(calls, state);
        addWriting(calls, state);
        addLooking(calls, state);
        addTimes(calls);
        return calls;
    }

    private static void addField(List<Refused> calls) {
        for (int p : new int[] {7, 64, 0, -11, LEAST, MOST}) {
            calls.add(new Refused("field(" + p + ")", x -> x.field(p), BAD));
        }
        for (int p : new int[] {8, 15, 16, 31, 32, 63, 21}) {
            calls.add(new Refused("field(" + p + ")", x -> x.field(p), LOOSE));
        }
    }

    private static void addElements(List<Refused> calls, int size) {
        for (int v : new int[] {-1, size, LEAST, MOST}) {
            calls.add(new Refused("times(" + v + ", 1)", x -> x.times(v, 1), BAD));
            calls.add(new Refused("times(0, " + v + ")", x -> x.times(0, v), BAD));
            calls.add(new Refused("over(" + v + ", 0)", x -> x.over(v, 0), BAD));
            calls.add(new Refused("over(0, " + v + ")", x -> x.over(0, v), BAD));
            calls.add(new Refused("log(" + v + ")", x -> x.log(v), BAD));
        }
        calls.add(new Refused("over(0, 0)", x -> x.over(0, 0), NONE));
        calls.add(new Refused("over(7, 0)", x -> x.over(7, 0), NONE));
        calls.add(new Refused("log(0)", x -> x.log(0), NONE));
    }

    private static void addCode(List<Refused> calls, State state) {
        int most = Math.min(state.size() - 1, 20);
        int[][] numbers = {
            {-1, most, 2}, {2, most, 2}, {LEAST, most, 2}, {MOST, most, 2},
            {0, 2, 2}, {1, most + 1, 2}, {0, LEAST, 2}, {1, MOST, 2},
            {1, most, 1}, {0, most, 5}, {0, 3, 3}, {1, most, LEAST}, {0, most, MOST}, {0, most, 1 << 30}};
        for (int[] c : numbers) {
            String call = "code(" + c[0] + ", " + c[1] + ", " + c[2] + ")";
            calls.add(new Refused(call, x -> number(x.code(c[0], c[1], c[2])), FALSE));
        }
    }

    private static void addWriting(List<Refused> calls, State state) {
        for (int i : new int[] {-1, state.k(), LEAST, MOST}) {
            calls.add(new Refused("tell(" + i + ", 1)", x -> number(x.tell(i, 1)), FALSE));
        }
        for (int i : new int[] {-1, state.n(), LEAST, MOST}) {
            calls.add(new Refused("receive(" + i + ", 1)", x -> number(x.receive(i, 1)), FALSE));
            calls.add(new Refused("erase(" + i + ")", x -> number(x.erase(i)), FALSE));
        }
        for (int v : new int[] {-1, state.size(), LEAST, MOST}) {
            calls.add(new Refused("tell(0, " + v + ")", x -> number(x.tell(0, v)), FALSE));
            calls.add(new Refused("receive(2, " + v + ")", x -> number(x.receive(2, v)), FALSE));
            calls.add(new Refused("receive(-1, " + v + ")", x -> number(x.receive(-1, v)), FALSE));
        }
    }

    private static void addLooking(List<Refused> calls, State state) {
        int checks = state.n() - state.k();
        addBeyond(calls, "word", RadiusDecoder::word, state.n());
        addBeyond(calls, "syndrome", RadiusDecoder::syndrome, checks);
        addBeyond(calls, "decoded", RadiusDecoder::decoded, state.n());
        addBeyond(calls, "sent", RadiusDecoder::sent, state.k());
        addBeyond(calls, "locator", RadiusDecoder::locator, checks + 1);
        addBeyond(calls, "distance", RadiusDecoder::distance, state.found());
        addBeyond(calls, "first place listed", (x, c) -> x.listed(c, 0), state.found());
        addBeyond(calls, "first codeword listed", (x, i) -> x.listed(0, i), state.n());
    }

    private static void addBeyond(List<Refused> calls, String name, Asked asked, int firstWrong) {
        for (int i : new int[] {-1, firstWrong, LEAST, MOST}) {
            calls.add(new Refused(name + "(" + i + ")", x -> asked.at(x, i), BAD));
        }
    }

    private static void addTimes(List<Refused> calls) {
        for (int s : new int[] {0, 4, -1, LEAST, MOST}) {
            calls.add(new Refused("list(" + s + ")", x -> x.list(s), BAD));
            calls.add(new Refused("radius(" + s + ")", x -> x.radius(s), BAD));
            calls.add(new Refused("weight(" + s + ")", x -> x.weight(s), BAD));
        }
    }

    private static List<Refused> refusedWhenNothingIsFound() {
        List<Refused> calls = new ArrayList<>();
        for (int i = 0; i < 2; i++) {
            int at = i;
            calls.add(new Refused("decoded(" + at + ")", x -> x.decoded(at), NONE));
            calls.add(new Refused("sent(" + at + ")", x -> x.sent(at), NONE));
            calls.add(new Refused("locator(" + at + ")", x -> x.locator(at), NONE));
            calls.add(new Refused("distance(" + at + ")", x -> x.distance(at), BAD));
            calls.add(new Refused("listed(" + at + ", 0)", x -> x.listed(at, 0), BAD));
        }
        return calls;
    }

    private static List<Refused> refusedWhenErased(int place) {
        return List.of(
                new Refused("erase(" + place + ")", x -> number(x.erase(place)), FALSE),
                new Refused("word(" + place + ")", x -> x.word(place), NONE));
    }

    private static List<Refused> refusedWhenManyAreErased() {
        List<Refused> calls = new ArrayList<>();
        calls.add(new Refused("decode(true)", x -> x.decode(true), MANY));
        calls.add(new Refused("decode(false)", x -> x.decode(false), MANY));
        for (int i = 1; i <= 3; i++) {
            int s = i;
            calls.add(new Refused("list(" + s + ")", x -> x.list(s), MANY));
            calls.add(new Refused("radius(" + s + ")", x -> x.radius(s), MANY));
            calls.add(new Refused("weight(" + s + ")", x -> x.weight(s), MANY));
        }
        return calls;
    }

    // The order of refusals.

    /** "BAD first, then MANY, where both are named" */
    private static void badBeforeMany() {
        for (RadiusDecoder x : new RadiusDecoder[] {crowded(), bare()}) {
            for (int s : new int[] {0, 4, -1, LEAST, MOST}) {
                due("many erased: list(" + s + ")", x.list(s), BAD);
                due("many erased: radius(" + s + ")", x.radius(s), BAD);
                due("many erased: weight(" + s + ")", x.weight(s), BAD);
            }
            for (int s = 1; s <= 3; s++) {
                due("many erased: list(" + s + ")", x.list(s), MANY);
                due("many erased: radius(" + s + ")", x.radius(s), MANY);
                due("many erased: weight(" + s + ")", x.weight(s), MANY);
            }
        }
    }

    /** The document names BAD before NONE in each promise that names both. */
    private static void badBeforeNone() {
        RadiusDecoder x = new RadiusDecoder();
        for (int far : new int[] {-1, 8, LEAST, MOST}) {
            due("b is 0: over(" + far + ", 0)", x.over(far, 0), BAD);
            due("nothing decoded: decoded(" + far + ")", x.decoded(far), BAD);
            due("nothing decoded: sent(" + far + ")", x.sent(far), BAD);
            due("nothing decoded: locator(" + far + ")", x.locator(far), BAD);
        }
    }

    /** "BAD when p is not 8 .. 63; LOOSE when it is not primitive" */
    private static void badBeforeLoose() {
        RadiusDecoder x = new RadiusDecoder();
        for (int p : new int[] {4, 6, 64, 128, -8, LEAST}) {
            due("neither: field(" + p + ")", x.field(p), BAD);
        }
    }

    /** If two states looked the same, a change from one to the other would not be seen. */
    private static void statesDiffer(List<State> states) {
        for (State a : states) {
            for (State b : states) {
                due(a.name() + " looks like " + b.name(), seen(a.maker().get()).equals(seen(b.maker().get())), a == b);
            }
        }
    }
}
