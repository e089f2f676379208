/** Promises 30 to 32: slots, and what is counted. */
public final class SlotsTest {
    private static final Due due = new Due("SlotsTest");
    private static final int[] NO_SLOT = {2, -1, Integer.MIN_VALUE, Integer.MAX_VALUE};

    public static void main(String[] args) {
        keep();
        again();
        againOfAnew();
        count();
        due.end();
    }

    // Promise 30
    private static void keep() {
        OnlyNamed x = Due.houseOf("H0NaNbP1P1K00K01");
        due.is("keep(0) on day 0", x.keep(0), 0);
        x.days(7);
        due.is("keep(1) on day 7", x.keep(1), 7);
        x.days(99);
        due.is("keep(0) on day 106: over what was kept", x.keep(0), 106);
        for (int odd : NO_SLOT) {
            due.is("keep(" + odd + ")", x.keep(odd), OnlyNamed.UNKNOWN);
        }
        due.is("again(0)", x.again(0), 106);
        due.is("nothing is live", x.live(), 0);
        due.is("again(1)", x.again(1), 7);
        due.is("all live", x.live(), 3);
        x.days(2);
        x.say(0, 0, 2);
        due.is("what comes later is not kept", x.again(1), 7);
        due.is("knows(0)", x.knows(0), 1);
        due.is("fades(0)", x.fades(0), 3);
    }

    // Promise 31
    private static void again() {
        OnlyNamed x = Due.houseOf("H0NaNbP1P1K00K01");
        for (int odd : NO_SLOT) {
            due.is("again(" + odd + ")", x.again(odd), OnlyNamed.UNKNOWN);
        }
        due.is("again(0): none were kept", x.again(0), OnlyNamed.STATE);
        x.days(3);
        x.say(0, 0, 2);
        x.keep(1);
        due.is("again(0): none were kept there", x.again(0), OnlyNamed.STATE);
        x.line(0, 1);
        x.give(0, 1, 1);
        x.days(20);
        x.wipe();
        due.is("again(1)", x.again(1), 3);
        due.is("the day", x.count(4), 3);
        due.is("live", x.live(), 3);
        due.is("knows(0)", x.knows(0), 3);
        due.is("knows(1)", x.knows(1), 1);
        due.is("said on day 3", x.fades(0), 10);
        due.is("said on day 0", x.fades(1), 7);
        due.is("lines are not kept", x.count(5), 1);
        due.is("the text is not kept", x.count(0), 0);
        x.days(1);
        due.is("it stays kept", x.again(1), 3);
        Due.settle(x, "H0Nc");
        due.is("a new house: none are kept", x.again(1), OnlyNamed.STATE);
        due.same("its own name stays", Due.nameOf(x, 0), "c");
    }

    private static void againOfAnew() {
        OnlyNamed x = Due.houseOf("H1NabcNdefP3");
        x.keep(0);
        x.days(10);
        x.anew(0, 1);
        x.keep(1);
        due.is("count(7) behind anew", x.count(7), 4);
        due.is("again(0)", x.again(0), 0);
        due.same("the old name", Due.nameOf(x, 1), "def");
        due.is("again(1)", x.again(1), 10);
        due.same("the new name", Due.nameOf(x, 1), "a");
        due.is("live", x.live(), 2);
        due.is("knows(1)", x.knows(1), 1);
    }

    // Promise 32
    private static void count() {
        OnlyNamed x = Due.houseOf("H2NaNbcNdefP1P1K00");
        x.line(0, 1);
        x.line(0, 1);
        x.days(9);
        x.say(0, 0, 0);
        x.days(5);
        int[] want = {18, 3, 2, 2, 14, 2, 1, 6};
        for (int what = 0; what < 8; what++) {
            due.is("count(" + what + ")", x.count(what), want[what]);
        }
        for (int odd : new int[] {8, -1, 9, Integer.MIN_VALUE, Integer.MAX_VALUE}) {
            due.is("count(" + odd + ")", x.count(odd), OnlyNamed.OUTSIDE);
        }
        x.anew(1, 1);
        due.is("count(6) behind anew", x.count(6), 2);
    }
}
