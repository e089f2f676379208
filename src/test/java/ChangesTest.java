import java.util.function.Supplier;
import java.util.function.ToIntFunction;

/** What is only asked changes nothing, and what changes something changes only what its promise says. */
public final class ChangesTest {
    private static final Due due = new Due("ChangesTest");

    public static void main(String[] args) {
        asking();
        askingOfNothing();
        theText();
        theSongs();
        aNewHouse();
        daysGoBy();
        sayingAndGiving();
        namingAnew();
        keepingAndAgain();
        twoObjects();
        due.end();
    }

    /** Day 7, three people; the things ab, cdef, e, fc, fd, of which the last two are near; kept in slot 0 on day 4. */
    private static OnlyNamed busy() {
        OnlyNamed x = Due.houseOf("H1NabNcdefNeNfcNfdP4P9P2K00K01K10K12K13K21");
        x.line(0, 3);
        x.line(1, 3);
        x.line(5, 129);
        x.days(4);
        x.say(1, 2, 4);
        x.keep(0);
        x.days(3);
        x.give(0, 2, 0);
        x.wipe();
        Due.tell(x, "H2NaNbcP3K0");
        return x;
    }

    private static OnlyNamed withFullText() {
        OnlyNamed x = busy();
        x.wipe();
        for (int part = 0; part < 12; part++) {
            x.write(8, -1L);
        }
        return x;
    }

    private static OnlyNamed empty() {
        return new OnlyNamed();
    }

    /** Behind the call all is answered as if it had not been made, but for calls of these names. */
    private static void changesOnly(String call, Supplier<OnlyNamed> state, ToIntFunction<OnlyNamed> made, String... butFor) {
        OnlyNamed x = state.get();
        OnlyNamed y = state.get();
        made.applyAsInt(x);
        Asked.of(x).same(due, call, Asked.of(y), butFor);
    }

    private static void changesNothing(String call, Supplier<OnlyNamed> state, ToIntFunction<OnlyNamed> made) {
        for (ToIntFunction<OnlyNamed> behind : Asked.BEHIND) {
            OnlyNamed x = state.get();
            OnlyNamed y = state.get();
            made.applyAsInt(x);
            due.is(call + ", then a step", behind.applyAsInt(x), behind.applyAsInt(y));
            Asked.of(x).same(due, call, Asked.of(y));
        }
    }

    private static void asking() {
        Supplier<OnlyNamed> busy = ChangesTest::busy;
        changesNothing("fault", busy, x -> x.fault());
        changesNothing("sound", busy, x -> x.sound(1, 3) + x.sound(1, 4));
        changesNothing("off", busy, x -> x.off(0, 1) + x.off(1, 0));
        changesNothing("near", busy, x -> x.near(3));
        changesNothing("knows", busy, x -> x.knows(0));
        changesNothing("live", busy, x -> x.live());
        changesNothing("fades", busy, x -> x.fades(0));
        changesNothing("fresh", busy, x -> x.fresh(0) + x.fresh(9));
        changesNothing("lifts", busy, x -> x.lifts(0) + x.lifts(1));
        changesNothing("stands", busy, x -> x.stands(1, 31) + x.stands(0, 0));
        changesNothing("carries", busy, x -> x.carries(0, 7) + x.carries(1, 31));
        changesNothing("times", busy, x -> x.times(7) + x.times(31) + x.times(0));
        changesNothing("worth", busy, x -> x.worth(0) + x.worth(1) + x.worth(2));
        changesNothing("upkeep", busy, x -> x.upkeep(31, 99));
        changesNothing("mayHave", busy, x -> x.mayHave(0));
        changesNothing("ways", busy, x -> x.ways(1) + x.ways(8));
        changesNothing("mayBe", busy, x -> x.mayBe(8, 0) + x.mayBe(8, 7));
        changesNothing("breaks", busy, x -> x.breaks(1) + x.breaks(8));
        changesNothing("twins", busy, x -> x.twins(1) + x.twins(5));
        changesNothing("count", busy, x -> x.count(7));
        changesNothing("all that can be asked", busy, x -> Asked.of(x) == null ? 1 : 0);
    }

    private static void askingOfNothing() {
        changesNothing("all that can be asked of a new object", ChangesTest::empty, x -> Asked.of(x) == null ? 1 : 0);
        changesNothing("wipe of no text", ChangesTest::empty, x -> x.wipe());
        changesNothing("silence of no lines", ChangesTest::empty, x -> x.silence());
    }

    // Promises 2, 3
    private static void theText() {
        changesOnly("write", ChangesTest::busy, x -> x.write(1, '1'), "fault", "count(0)");
        changesOnly("wipe", ChangesTest::busy, x -> x.wipe(), "fault", "count(0)");
        changesOnly("wipe of 96 bytes", ChangesTest::withFullText, x -> x.wipe(), "fault", "count(0)");
        OnlyNamed x = busy();
        x.write(1, '0');
        x.fault();
        due.is("a text that was read stays: house", x.house(), 21);
        due.is("a text that is the house stays: count(0)", x.count(0), 12);
        due.is("more comes behind it", x.write(3, 0x4B3031), 15);
        due.is("and is read with it", x.house(), 21);
        due.is("and is read with it: knows(1)", x.knows(1), 1);
    }

    // Promises 24, 25
    private static void theSongs() {
        changesOnly("line", ChangesTest::busy, x -> x.line(7, 1), "ways", "mayBe", "breaks", "count(5)");
        changesOnly("silence", ChangesTest::busy, x -> x.silence(), "ways", "mayBe", "breaks", "count(5)");
    }

    // Promise 5
    private static void aNewHouse() {
        OnlyNamed x = busy();
        x.write(1, '1');
        x.house();
        OnlyNamed y = Due.houseOf("H2NaNbcP3K01");
        y.line(0, 3);
        y.line(1, 3);
        y.line(5, 129);
        Asked.of(x).same(due, "a house behind another one is as in a new object, but for the lines", Asked.of(y));
        due.is("nothing is kept in slot 0", x.again(0), OnlyNamed.STATE);
        due.is("nothing is kept in slot 1", x.again(1), OnlyNamed.STATE);
        x.wipe();
        Due.tell(x, "H0");
        due.is("H0", x.house(), 0);
        OnlyNamed z = Due.houseOf("H0");
        z.line(0, 3);
        z.line(1, 3);
        z.line(5, 129);
        Asked.of(x).same(due, "a house of nothing behind another one", Asked.of(z));
    }

    // Promise 11
    private static void daysGoBy() {
        changesOnly("days", ChangesTest::busy, x -> x.days(1), "fades", "count(4)", "upkeep");
        changesOnly("days to the last one of two names", ChangesTest::busy, x -> x.days(2), "fades", "count(4)", "upkeep");
        OnlyNamed x = busy();
        x.days(99);
        due.is("99 days change nothing that is kept: again(0)", x.again(0), 4);
        OnlyNamed y = busy();
        y.again(0);
        Asked.of(x).same(due, "again behind 99 days", Asked.of(y));
    }

    // Promises 13, 14
    private static void sayingAndGiving() {
        OnlyNamed x = busy();
        int[] knew = {x.knows(0), x.knows(1), x.knows(2), x.knows(3), x.knows(4)};
        int[] faded = {x.fades(0), x.fades(1), x.fades(2), x.fades(3), x.fades(4)};
        x.say(1, 2, 7);
        due.is("say: who knows it", x.knows(2), 7);
        due.is("say: when it fades", x.fades(2), 10);
        x.give(1, 0, 3);
        due.is("give: who knows it", x.knows(3), 1);
        due.is("give: when it fades", x.fades(3), 10);
        for (int t : new int[] {0, 1, 4}) {
            due.is("said, given: another name, knows(" + t + ")", x.knows(t), knew[t]);
            due.is("said, given: another name, fades(" + t + ")", x.fades(t), faded[t]);
        }
        changesOnly("say", ChangesTest::busy, y -> y.say(1, 2, 0), "fades(2)", "upkeep");
        changesOnly("say on the day on which it was said", ChangesTest::busy, y -> y.say(1, 0, 0));
        changesOnly("say to who knows it, on that day", ChangesTest::busy, y -> y.say(1, 0, 6));
        changesOnly("give", ChangesTest::busy, y -> y.give(2, 0, 2), "knows(2)", "fades(2)", "upkeep", "lifts", "mayHave(2)",
            "stands", "carries", "worth", "times");
    }

    // Promise 16
    private static void namingAnew() {
        OnlyNamed x = busy();
        x.days(3);
        due.is("live", x.live(), 5);
        Asked before = Asked.of(x);
        x.anew(1, 3);
        Asked.of(x).same(due, "anew of 3", before, "sound(3", "off(2, 3)", "off(3, 4)", "knows(3)", "near", "fades(3)", "live", "fresh",
            "lifts", "stands", "carries", "times", "worth", "upkeep", "mayHave", "count(6)", "count(7)", "twins");
        due.is("live then", x.live(), 13);
    }

    // Promises 30, 31
    private static void keepingAndAgain() {
        changesOnly("keep(0)", ChangesTest::busy, x -> x.keep(0));
        changesOnly("keep(1)", ChangesTest::busy, x -> x.keep(1));
        changesOnly("keep, again", ChangesTest::busy, x -> x.keep(1) + x.again(1));
        OnlyNamed x = busy();
        x.again(0);
        OnlyNamed y = Due.houseOf("H1NabNcdefNeNfcNfdP4P9P2K00K01K10K12K13K21");
        y.line(0, 3);
        y.line(1, 3);
        y.line(5, 129);
        y.days(4);
        y.say(1, 2, 4);
        y.wipe();
        Due.tell(y, "H2NaNbcP3K0");
        Asked.of(x).same(due, "again(0): all as it was on day 4, but the text, the lines", Asked.of(y));
    }

    private static void twoObjects() {
        OnlyNamed x = busy();
        OnlyNamed y = new OnlyNamed();
        y.line(1, 1);
        y.days(9);
        y.keep(0);
        y.keep(1);
        Due.settle(y, "H3NaP1K00");
        Asked.of(x).same(due, "another object changes nothing", Asked.of(busy()));
        due.is("another object changes nothing: again(1)", x.again(1), OnlyNamed.STATE);
    }
}
