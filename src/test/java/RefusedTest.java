import java.util.function.Supplier;
import java.util.function.ToIntFunction;

/** "REFUSALS, of several the first that a call names .. What is refused changes nothing." For every call that can be refused. */
public final class RefusedTest {
    private static final Due due = new Due("RefusedTest");
    private static final int MIN = Integer.MIN_VALUE, MAX = Integer.MAX_VALUE;
    private static final int UNKNOWN = -1, OUTSIDE = -2, STATE = -3, FULL = -4;
    /** The busy house has five things and three people; 32 and 33 would be 0 and 1 in a shift. */
    private static final int[] NO_THING = {5, 6, 7, 8, 32, 33, 256, -1, -32, MIN, MAX};
    private static final int[] NOBODY = {3, 4, 5, 6, 32, 33, -1, -32, MIN, MAX};
    private static final int[] NOT_OF_THINGS = {32, 33, 64, 128, 255, 256, 1 << 30, -1, MIN, MAX, MIN + 1};
    private static final int[] NOT_OF_PEOPLE = {8, 9, 16, 32, 63, 64, 1 << 30, -1, MIN, MAX, MIN + 1};

    public static void main(String[] args) {
        ofNothing();
        ofTheText();
        ofTheHouse();
        ofSaying();
        ofGiving();
        ofNamingAnew();
        ofLoads();
        ofSongs();
        ofSlots();
        due.end();
    }

    /** On day 7, kept in slot 0 on day 4, with three lines and a text that is another house but for its last byte. */
    private static OnlyNamed busy() {
        OnlyNamed x = Due.houseOf("H1NabNcdefNeNfcNfdP4P9P2K00K01K10K12K13K21");
        x.line(0, 3);
        x.line(1, 3);
        x.line(5, 129);
        x.days(4);
        x.say(1, 2, 4);
        x.keep(0);
        x.days(3);
        x.give(0, 2, 0);
        x.wipe();
        Due.tell(x, "H2NaNbcP3K0");
        return x;
    }

    /** On day 19: the thing 4 alone is live, named anew by 2; both slots are kept. */
    private static OnlyNamed faded() {
        OnlyNamed x = busy();
        x.days(12);
        x.anew(2, 4);
        x.keep(1);
        return x;
    }

    /** No more bytes and no more lines can come. */
    private static OnlyNamed full() {
        OnlyNamed x = busy();
        x.wipe();
        Due.tell(x, "H3NabP5");
        while (x.count(0) < 96) {
            x.write(1, 'K');
        }
        while (x.count(5) < 16) {
            x.line(x.count(5) % 8, 255 - x.count(5));
        }
        return x;
    }

    private static OnlyNamed empty() {
        return new OnlyNamed();
    }

    /** What is asked behind the refused call must be answered as if it had not been made. */
    private static void refused(String call, int want, Supplier<OnlyNamed> state, ToIntFunction<OnlyNamed> refusal) {
        int step = 0;
        for (ToIntFunction<OnlyNamed> behind : Asked.BEHIND) {
            OnlyNamed x = state.get();
            OnlyNamed y = state.get();
            due.is(call, refusal.applyAsInt(x), want);
            due.is(call + ", then step " + step, behind.applyAsInt(x), behind.applyAsInt(y));
            Asked.of(x).same(due, call + ", step " + step, Asked.of(y));
            step++;
        }
    }

    /** A new object has no things and no people: all calls that name one are refused. */
    private static void ofNothing() {
        refused("new: house()", STATE, RefusedTest::empty, x -> x.house());
        for (int odd : new int[] {0, 1, -1, MIN, MAX}) {
            refused("new: sound(" + odd + ", 0)", UNKNOWN, RefusedTest::empty, x -> x.sound(odd, 0));
            refused("new: off(0, " + odd + ")", UNKNOWN, RefusedTest::empty, x -> x.off(0, odd));
            refused("new: near(" + odd + ")", UNKNOWN, RefusedTest::empty, x -> x.near(odd));
            refused("new: knows(" + odd + ")", UNKNOWN, RefusedTest::empty, x -> x.knows(odd));
            refused("new: fades(" + odd + ")", UNKNOWN, RefusedTest::empty, x -> x.fades(odd));
            refused("new: say(" + odd + ", 0, 0)", UNKNOWN, RefusedTest::empty, x -> x.say(odd, 0, 0));
            refused("new: give(" + odd + ", 0, 0)", UNKNOWN, RefusedTest::empty, x -> x.give(odd, 0, 0));
            refused("new: anew(" + odd + ", 0)", UNKNOWN, RefusedTest::empty, x -> x.anew(odd, 0));
            refused("new: lifts(" + odd + ")", UNKNOWN, RefusedTest::empty, x -> x.lifts(odd));
            refused("new: stands(" + odd + ", 0)", UNKNOWN, RefusedTest::empty, x -> x.stands(odd, 0));
            refused("new: carries(" + odd + ", 0)", UNKNOWN, RefusedTest::empty, x -> x.carries(odd, 0));
            refused("new: worth(" + odd + ")", UNKNOWN, RefusedTest::empty, x -> x.worth(odd));
            refused("new: mayHave(" + odd + ")", UNKNOWN, RefusedTest::empty, x -> x.mayHave(odd));
        }
        for (int odd : new int[] {1, 2, 255, 256, -1, MIN, MAX}) {
            refused("new: times(" + odd + ")", OUTSIDE, RefusedTest::empty, x -> x.times(odd));
            refused("new: upkeep(" + odd + ", 0)", OUTSIDE, RefusedTest::empty, x -> x.upkeep(odd, 0));
        }
        refused("new: again(0)", STATE, RefusedTest::empty, x -> x.again(0));
        refused("new: again(1)", STATE, RefusedTest::empty, x -> x.again(1));
    }

    // Promises 2 to 5
    private static void ofTheText() {
        for (int odd : new int[] {0, 9, 10, 16, 64, -1, -8, MIN, MAX}) {
            refused("write(" + odd + ")", OUTSIDE, RefusedTest::busy, x -> x.write(odd, '1'));
            refused("full, OUTSIDE comes first: write(" + odd + ")", OUTSIDE, RefusedTest::full, x -> x.write(odd, '1'));
        }
        for (int n = 1; n <= 8; n++) {
            int bytes = n;
            refused("full: write(" + n + ")", FULL, RefusedTest::full, x -> x.write(bytes, -1L));
            // One byte less than n is free.
            refused("write(" + n + ") to 97", FULL, () -> withBytes(97 - bytes), x -> x.write(bytes, 0x4B4B4B4B4B4B4B4BL));
        }
        refused("house() of a text that is not at its end", STATE, RefusedTest::busy, x -> x.house());
        refused("house() of a fault at 7", STATE, RefusedTest::full, x -> x.house());
        refused("house() of no text", STATE, () -> told(""), x -> x.house());
        refused("house() of a fault at 0", STATE, () -> told("h0"), x -> x.house());
        refused("house() of a whole house with a byte too many", STATE, () -> told("H0NabP4K00H"), x -> x.house());
        refused("house() of two names alike", STATE, () -> told("H0NabNab"), x -> x.house());
        refused("house() of a ninth thing", STATE, () -> told("H0NaNbNcNdNeNfNaaNabNac"), x -> x.house());
        refused("house() of a seventh person", STATE, () -> told("H0P1P1P1P1P1P1P1"), x -> x.house());
    }

    /** The busy house with so many bytes in its text. */
    private static OnlyNamed withBytes(int bytes) {
        OnlyNamed x = busy();
        while (x.count(0) < bytes) {
            x.write(1, 'K');
        }
        return x;
    }

    /** Faded, where both slots are kept, with this text. */
    private static OnlyNamed told(String text) {
        OnlyNamed x = faded();
        x.wipe();
        Due.tell(x, text);
        return x;
    }

    // Promises 6 to 12
    private static void ofTheHouse() {
        for (int odd : NO_THING) {
            for (int i : new int[] {0, 4, 5, -1, MAX}) {
                refused("sound(" + odd + ", " + i + ")", UNKNOWN, RefusedTest::busy, x -> x.sound(odd, i));
            }
            refused("off(" + odd + ", 0)", UNKNOWN, RefusedTest::busy, x -> x.off(odd, 0));
            refused("off(0, " + odd + ")", UNKNOWN, RefusedTest::busy, x -> x.off(0, odd));
            refused("off(" + odd + ", " + odd + ")", UNKNOWN, RefusedTest::busy, x -> x.off(odd, odd));
            refused("near(" + odd + ")", UNKNOWN, RefusedTest::busy, x -> x.near(odd));
            refused("faded: near(" + odd + ")", UNKNOWN, RefusedTest::faded, x -> x.near(odd));
            refused("knows(" + odd + ")", UNKNOWN, RefusedTest::busy, x -> x.knows(odd));
            refused("fades(" + odd + ")", UNKNOWN, RefusedTest::busy, x -> x.fades(odd));
            refused("faded: fades(" + odd + ")", UNKNOWN, RefusedTest::faded, x -> x.fades(odd));
        }
        for (int thing = 0; thing < 4; thing++) {
            int t = thing;
            refused("not live: near(" + t + ")", STATE, RefusedTest::faded, x -> x.near(t));
            refused("not live: fades(" + t + ")", STATE, RefusedTest::faded, x -> x.fades(t));
        }
        for (int odd : new int[] {0, 100, 101, 355, -1, -99, MIN, MAX}) {
            refused("days(" + odd + ")", OUTSIDE, RefusedTest::busy, x -> x.days(odd));
        }
    }

    // Promise 13
    private static void ofSaying() {
        for (int odd : NOBODY) {
            refused("say(" + odd + ", 2, 0)", UNKNOWN, RefusedTest::busy, x -> x.say(odd, 2, 0));
        }
        for (int odd : NO_THING) {
            refused("say(1, " + odd + ", 0)", UNKNOWN, RefusedTest::busy, x -> x.say(1, odd, 0));
        }
        for (int odd : NOT_OF_PEOPLE) {
            refused("say(1, 2, " + odd + ")", OUTSIDE, RefusedTest::busy, x -> x.say(1, 2, odd));
            refused("OUTSIDE comes ahead of STATE: say(0, 2, " + odd + ")", OUTSIDE, RefusedTest::busy, x -> x.say(0, 2, odd));
            refused("UNKNOWN comes ahead of OUTSIDE: say(3, 2, " + odd + ")", UNKNOWN, RefusedTest::busy, x -> x.say(3, 2, odd));
            refused("UNKNOWN comes ahead of OUTSIDE: say(1, 5, " + odd + ")", UNKNOWN, RefusedTest::busy, x -> x.say(1, 5, odd));
            refused("not live, OUTSIDE first: say(1, 2, " + odd + ")", OUTSIDE, RefusedTest::faded, x -> x.say(1, 2, odd));
        }
        for (int hearers = 0; hearers < 8; hearers++) {
            int h = hearers;
            refused("say(0, 2, " + h + ") by one that does not know it", STATE, RefusedTest::busy, x -> x.say(0, 2, h));
            refused("say(0, 0, " + h + ") by one that gave it", STATE, RefusedTest::busy, x -> x.say(0, 0, h));
            refused("say(0, 4, " + h + ") of what nobody knows", STATE, RefusedTest::busy, x -> x.say(0, 4, h));
            refused("say(1, 2, " + h + ") of what is not live", STATE, RefusedTest::faded, x -> x.say(1, 2, h));
            refused("say(1, 4, " + h + ") of what another one named anew", STATE, RefusedTest::faded, x -> x.say(1, 4, h));
        }
    }

    // Promise 14
    private static void ofGiving() {
        for (int odd : NOBODY) {
            refused("give(" + odd + ", 0, 2)", UNKNOWN, RefusedTest::busy, x -> x.give(odd, 0, 2));
            refused("give(1, " + odd + ", 2)", UNKNOWN, RefusedTest::busy, x -> x.give(1, odd, 2));
            refused("both are one, UNKNOWN comes first: give(" + odd + ", " + odd + ", 2)", UNKNOWN, RefusedTest::busy,
                x -> x.give(odd, odd, 2));
            refused("not known, UNKNOWN comes first: give(0, " + odd + ", 2)", UNKNOWN, RefusedTest::busy, x -> x.give(0, odd, 2));
        }
        for (int odd : NO_THING) {
            refused("give(1, 0, " + odd + ")", UNKNOWN, RefusedTest::busy, x -> x.give(1, 0, odd));
            refused("both are one, UNKNOWN comes first: give(1, 1, " + odd + ")", UNKNOWN, RefusedTest::busy, x -> x.give(1, 1, odd));
        }
        for (int person = 0; person < 3; person++) {
            int p = person;
            refused("both are one: give(" + p + ", " + p + ", 2)", STATE, RefusedTest::busy, x -> x.give(p, p, 2));
            refused("of what nobody knows: give(" + p + ", " + (p + 1) % 3 + ", 4)", STATE, RefusedTest::busy,
                x -> x.give(p, (p + 1) % 3, 4));
            refused("not live: give(" + p + ", " + (p + 1) % 3 + ", 0)", STATE, RefusedTest::faded, x -> x.give(p, (p + 1) % 3, 0));
        }
        refused("give(0, 1, 2) by one that does not know it", STATE, RefusedTest::busy, x -> x.give(0, 1, 2));
        refused("give(0, 2, 2) by one that does not know it", STATE, RefusedTest::busy, x -> x.give(0, 2, 2));
        refused("give(0, 1, 0) by one that gave it", STATE, RefusedTest::busy, x -> x.give(0, 1, 0));
    }

    // Promise 16
    private static void ofNamingAnew() {
        for (int odd : NOBODY) {
            refused("anew(" + odd + ", 0)", UNKNOWN, RefusedTest::faded, x -> x.anew(odd, 0));
            refused("live, UNKNOWN comes first: anew(" + odd + ", 4)", UNKNOWN, RefusedTest::faded, x -> x.anew(odd, 4));
        }
        for (int odd : NO_THING) {
            refused("anew(0, " + odd + ")", UNKNOWN, RefusedTest::faded, x -> x.anew(0, odd));
        }
        for (int person = 0; person < 3; person++) {
            int p = person;
            refused("live: anew(" + p + ", 4)", STATE, RefusedTest::faded, x -> x.anew(p, 4));
            refused("live: anew(" + p + ", 0)", STATE, RefusedTest::busy, x -> x.anew(p, 0));
        }
    }

    // Promises 17 to 23
    private static void ofLoads() {
        for (int odd : NOBODY) {
            refused("lifts(" + odd + ")", UNKNOWN, RefusedTest::busy, x -> x.lifts(odd));
            refused("worth(" + odd + ")", UNKNOWN, RefusedTest::busy, x -> x.worth(odd));
            for (int things : new int[] {0, 1, 31, 32, -1, MIN, MAX}) {
                refused("stands(" + odd + ", " + things + ")", UNKNOWN, RefusedTest::busy, x -> x.stands(odd, things));
                refused("carries(" + odd + ", " + things + ")", UNKNOWN, RefusedTest::busy, x -> x.carries(odd, things));
            }
        }
        for (int odd : NOT_OF_THINGS) {
            refused("stands(0, " + odd + ")", OUTSIDE, RefusedTest::busy, x -> x.stands(0, odd));
            refused("carries(0, " + odd + ")", OUTSIDE, RefusedTest::busy, x -> x.carries(0, odd));
            refused("not live, OUTSIDE comes first: carries(0, " + odd + ")", OUTSIDE, RefusedTest::faded, x -> x.carries(0, odd));
            refused("times(" + odd + ")", OUTSIDE, RefusedTest::busy, x -> x.times(odd));
            for (int d : new int[] {0, 99, 100, -1}) {
                refused("upkeep(" + odd + ", " + d + ")", OUTSIDE, RefusedTest::busy, x -> x.upkeep(odd, d));
            }
        }
        for (int d : new int[] {100, 101, 256, -1, MIN, MAX}) {
            refused("upkeep(31, " + d + ")", OUTSIDE, RefusedTest::busy, x -> x.upkeep(31, d));
            refused("upkeep(0, " + d + ")", OUTSIDE, RefusedTest::busy, x -> x.upkeep(0, d));
        }
        for (int person = 0; person < 3; person++) {
            int p = person;
            refused("near to one another: carries(" + p + ", 24)", STATE, RefusedTest::busy, x -> x.carries(p, 24));
            refused("not live: carries(" + p + ", 1)", STATE, RefusedTest::faded, x -> x.carries(p, 1));
        }
        for (int odd : NO_THING) {
            refused("mayHave(" + odd + ")", UNKNOWN, RefusedTest::busy, x -> x.mayHave(odd));
        }
    }

    // Promises 24 to 29
    private static void ofSongs() {
        for (int odd : new int[] {8, 9, 16, 32, -1, -8, MIN, MAX}) {
            for (int things : new int[] {1, 255, 0, 256, -1}) {
                refused("line(" + odd + ", " + things + ")", OUTSIDE, RefusedTest::busy, x -> x.line(odd, things));
            }
            refused("full, OUTSIDE comes first: line(" + odd + ", 1)", OUTSIDE, RefusedTest::full, x -> x.line(odd, 1));
        }
        for (int odd : new int[] {0, 256, 257, 511, -1, -255, MIN, MAX}) {
            refused("line(0, " + odd + ")", OUTSIDE, RefusedTest::busy, x -> x.line(0, odd));
            refused("full, OUTSIDE comes first: line(7, " + odd + ")", OUTSIDE, RefusedTest::full, x -> x.line(7, odd));
        }
        for (int name = 0; name < 8; name++) {
            int n = name;
            refused("full: line(" + n + ", 1)", FULL, RefusedTest::full, x -> x.line(n, 1));
            refused("full: line(" + n + ", 255)", FULL, RefusedTest::full, x -> x.line(n, 255));
        }
        for (int odd : new int[] {0, 9, 16, 32, 33, -1, -8, MIN, MAX}) {
            refused("ways(" + odd + ")", OUTSIDE, RefusedTest::busy, x -> x.ways(odd));
            refused("breaks(" + odd + ")", OUTSIDE, RefusedTest::busy, x -> x.breaks(odd));
            for (int name : new int[] {0, 7, 8, -1, odd}) {
                refused("mayBe(" + odd + ", " + name + ")", OUTSIDE, RefusedTest::busy, x -> x.mayBe(odd, name));
            }
        }
        for (int n = 1; n <= 8; n++) {
            for (int odd : new int[] {n, n + 1, 8, 32, -1, MIN, MAX}) {
                int of = n;
                refused("mayBe(" + n + ", " + odd + ")", OUTSIDE, RefusedTest::busy, x -> x.mayBe(of, odd));
            }
        }
        for (int odd : new int[] {0, 6, 7, 11, -1, -5, MIN, MAX}) {
            refused("twins(" + odd + ")", OUTSIDE, RefusedTest::busy, x -> x.twins(odd));
        }
    }

    // Promises 30 to 32
    private static void ofSlots() {
        for (int odd : new int[] {2, 3, 32, 33, -1, -2, MIN, MAX}) {
            refused("keep(" + odd + ")", UNKNOWN, RefusedTest::busy, x -> x.keep(odd));
            refused("again(" + odd + ")", UNKNOWN, RefusedTest::busy, x -> x.again(odd));
            refused("both kept: keep(" + odd + ")", UNKNOWN, RefusedTest::faded, x -> x.keep(odd));
            refused("both kept: again(" + odd + ")", UNKNOWN, RefusedTest::faded, x -> x.again(odd));
        }
        refused("again(1): none were kept", STATE, RefusedTest::busy, x -> x.again(1));
        for (int odd : new int[] {8, 9, 10, 32, -1, -8, MIN, MAX}) {
            refused("count(" + odd + ")", OUTSIDE, RefusedTest::busy, x -> x.count(odd));
        }
    }
}
