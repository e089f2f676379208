/** Promises 1 to 12: the house. */
public final class HouseTest {
    private static final Due due = new Due("HouseTest");
    private static final int[] ODD = {-1, -2, 100, Integer.MIN_VALUE, Integer.MAX_VALUE};

    public static void main(String[] args) {
        aNewObject();
        write();
        wipe();
        faultInHead();
        faultInNames();
        faultInPeople();
        faultInKnowing();
        house();
        houseAnew();
        sound();
        off();
        near();
        knows();
        live();
        days();
        fades();
        due.end();
    }

    // Promise 1
    private static void aNewObject() {
        OnlyNamed x = new OnlyNamed();
        for (int what = 0; what <= 7; what++) {
            due.is("new: count(" + what + ")", x.count(what), 0);
        }
        due.is("new: live", x.live(), 0);
        due.is("new: fault", x.fault(), 0);
        due.is("new: house", x.house(), OnlyNamed.STATE);
        due.is("new: times(0)", x.times(0), 0);
        due.is("new: upkeep(0, 99)", x.upkeep(0, 99), 0);
        due.is("new: again(0)", x.again(0), OnlyNamed.STATE);
        due.is("new: again(1)", x.again(1), OnlyNamed.STATE);
        due.is("new: ways(8)", x.ways(8), 40320);
        due.is("new: silence", x.silence(), 0);
        due.is("new: wipe", x.wipe(), 0);
        due.same("new: fresh", Due.freshOf(x), "a");
        due.is("new: knows(0)", x.knows(0), OnlyNamed.UNKNOWN);
        due.is("new: lifts(0)", x.lifts(0), OnlyNamed.UNKNOWN);
        OnlyNamed y = Due.houseOf("H2NaP1K00");
        due.is("two objects share nothing", new OnlyNamed().count(1) + 10 * y.count(1), 10);
    }

    // Promise 2
    private static void write() {
        OnlyNamed x = new OnlyNamed();
        for (int n : new int[] {0, 9, -1, Integer.MIN_VALUE, Integer.MAX_VALUE}) {
            due.is("write(" + n + ", 0)", x.write(n, 0), OnlyNamed.OUTSIDE);
        }
        due.is("nothing came", x.count(0), 0);
        due.is("write(2, 'H0' below other bytes)", x.write(2, 0x5858585858584830L), 2);
        due.is("the highest came first, the others not", x.fault(), OnlyNamed.NONE);
        due.is("write(8, 'NabcdP9K')", x.write(8, 0x4E6162636450394BL), 10);
        due.is("write(2, '00')", x.write(2, 0x3030), 12);
        due.is("all eight came in order", x.house(), 11);
        due.same("all eight came in order: name", Due.nameOf(x, 0), "abcd");
        x.wipe();
        due.is("write(8, -1)", x.write(8, -1L), 8);
        for (int i = 1; i < 11; i++) {
            x.write(8, 0);
        }
        due.is("count(0) at 88", x.count(0), 88);
        due.is("write(7) to 95", x.write(7, 0), 95);
        due.is("write(2) at 95", x.write(2, 0), OnlyNamed.FULL);
        due.is("write(8) at 95", x.write(8, 0), OnlyNamed.FULL);
        due.is("nothing came of what was too much", x.count(0), 95);
        due.is("write(1) at 95", x.write(1, 0), 96);
        due.is("write(1) at 96", x.write(1, 0), OnlyNamed.FULL);
        due.is("write(9) at 96: OUTSIDE comes first", x.write(9, 0), OnlyNamed.OUTSIDE);
        due.is("write(0) at 96", x.write(0, 0), OnlyNamed.OUTSIDE);
        due.is("count(0) at 96", x.count(0), 96);
    }

    // Promise 3
    private static void wipe() {
        OnlyNamed x = Due.houseOf("H1NabP3K00");
        due.is("wipe", x.wipe(), 10);
        due.is("wipe again", x.wipe(), 0);
        due.is("count(0) behind wipe", x.count(0), 0);
        due.is("fault behind wipe", x.fault(), 0);
        due.is("the house stays", x.count(1) + 10 * x.count(2) + 100 * x.count(3), 111);
        due.is("what comes behind wipe begins anew", Due.tell(x, "H3"), 2);
        due.is("what comes behind wipe is read", x.fault(), OnlyNamed.NONE);
    }

    private static void fault(String text, int want) {
        due.is("fault of " + text, Due.faultOf(text), want);
        OnlyNamed x = new OnlyNamed();
        Due.tell(x, text);
        due.is("house is only what has no fault: " + text, x.house() == OnlyNamed.STATE ? 1 : 0, want == OnlyNamed.NONE ? 0 : 1);
    }

    // Promise 4
    private static void faultInHead() {
        fault("", 0);
        fault("H", 1);
        fault("h", 0);
        fault("0", 0);
        fault("XH0", 0);
        fault("H0", OnlyNamed.NONE);
        fault("H3", OnlyNamed.NONE);
        fault("H4", 1);
        fault("H/", 1);
        fault("H00", 2);
        fault("HH0", 1);
        fault("H0H0", 2);
        fault("H0 ", 2);
        fault("H0\0", 2);
        fault("H0\u00ff", 2);
        fault("\u00c8" + "0", 0);
    }

    private static void faultInNames() {
        fault("H0N", 3);
        fault("H0Ng", 3);
        fault("H0NA", 3);
        fault("H0N`", 3);
        fault("H0NN", 3);
        fault("H0Na", OnlyNamed.NONE);
        fault("H0Nf", OnlyNamed.NONE);
        fault("H0Nabcde", OnlyNamed.NONE);
        fault("H0Nabcdef", 8);
        fault("H0NabcdeNabcd", OnlyNamed.NONE);
        fault("H0NabcdNabcde", OnlyNamed.NONE);
        fault("H0NaNbNa", 8);
        fault("H0NaNbNaN", 8);
        fault("H0NaNbNaX", 8);
        fault("H0NaNbNaNc", 8);
        fault("H0NaNbNaP1", 8);
        fault("H0NaNbNab", OnlyNamed.NONE);
        fault("H0NabcdNabcd", 12);
        fault("H0NabcdNabcdN", 12);
        fault("H0NabcdeNabcde", 13);
        fault("H0NabcdeNabcdeN", 13);
        fault("H0NabcdNabcdaNabcdbNabcdcNabcddNabcdeNabcdfNabcd", 48);
        fault("H0NabcdNabcdaNabcdbNabcdcNabcddNabcdeNabcdfNabcda", 48);
        fault("H0NaNbNcNdNeNfNaaNbb", OnlyNamed.NONE);
        fault("H0NaNbNcNdNeNfNaaNbbN", 20);
        fault("H0NaNbNcNdNeNfNaaNa", 19);
        fault("H0NaNbNcNdNeNfNaaNaP1", 19);
        fault("H0NaNabNa", 9);
        // 96 bytes that are no whole house: the length itself is set aside.
        StringBuilder full = new StringBuilder("H0P1P1P1P1P1P1NaNbNcNdNeNfNaaNbb");
        for (int pair = 0; full.length() < 95; pair++) {
            full.append('K').append(pair % 6).append(pair / 6);
        }
        fault(full.substring(0, 95), OnlyNamed.NONE);
        fault(full.substring(0, 95) + "K", 96);
        fault(full.substring(0, 95) + "N", 95);
    }

    private static void faultInPeople() {
        fault("H0P", 3);
        fault("H0P0", 3);
        fault("H0P1", OnlyNamed.NONE);
        fault("H0P9", OnlyNamed.NONE);
        fault("H0P:", 3);
        fault("H0Pa", 3);
        fault("H0P11", 4);
        fault("H0P1P1P1P1P1P1", OnlyNamed.NONE);
        fault("H0P1P1P1P1P1P1P", 14);
        fault("H0P1P1P1P1P1P1P1", 14);
    }

    private static void faultInKnowing() {
        fault("H0K", 2);
        fault("H0K00", 2);
        fault("H0NaK", 4);
        fault("H0P1K", 4);
        fault("H0NaP1K", 7);
        fault("H0NaP1K0", 8);
        fault("H0NaP1K00", OnlyNamed.NONE);
        fault("H0NaP1K1", 7);
        fault("H0NaP1K/", 7);
        fault("H0NaP1Ka", 7);
        fault("H0NaP1K01", 8);
        fault("H0NaP1K0/", 8);
        fault("H0NaP1K00K", 9);
        fault("H0NaP1K00K00", 9);
        fault("H0NaP1P1K00K0", 12);
        fault("H0NaP1P1K00K00", 12);
        fault("H0NaP1P1K00K10", OnlyNamed.NONE);
        fault("H0NaNbP1K00K00", 13);
        fault("H0NaNbP1K00K0", 13);
        fault("H0NaNbP1K00K01", OnlyNamed.NONE);
        fault("H0NaNbP1K01K01", 13);
        fault("H0NaP1K00NbK01", OnlyNamed.NONE);
        fault("H0NaP1K01Nb", 8);
        fault("H0NaP1K10P1", 7);
        fault("H0NaK00P1", 4);
        fault("H0NaNbP1P2K00K11K01K10K", 22);
        fault("H0NaP1K000", 9);
    }

    // Promise 5
    private static void house() {
        OnlyNamed x = new OnlyNamed();
        due.is("house of no text", x.house(), OnlyNamed.STATE);
        due.is("house of H2", Due.settle(x, "H2"), 0);
        due.is("r of H2", x.count(3), 2);
        due.is("house of 2 things, 3 people", Due.settle(x, "H1NabP3P4NcP5K21"), 23);
        due.is("house again: the text stays", x.house(), 23);
        due.is("the text stays", x.count(0), 16);
        due.is("things", x.count(1), 2);
        due.is("people", x.count(2), 3);
        due.is("r", x.count(3), 1);
        due.is("knows(0)", x.knows(0), 0);
        due.is("knows(1)", x.knows(1), 4);
        due.is("most of all", Due.settle(x, "H3NaNbNcNdNeNfNaaNbbP1P2P3P4P5P6"), 86);
        x.line(0, 1);
        due.is("a fault", Due.settle(x, "H3Na?"), OnlyNamed.STATE);
        due.is("a fault changes nothing", x.count(1) * 10 + x.count(2), 86);
        x.keep(0);
        due.is("a fault keeps what was kept", x.house(), OnlyNamed.STATE);
        due.is("a fault keeps what was kept: again", x.again(0), 0);
    }

    private static void houseAnew() {
        OnlyNamed x = Due.houseOf("H0NaP1K00NbK01");
        x.line(3, 7);
        x.days(5);
        x.keep(0);
        x.keep(1);
        x.give(0, 0, 0);
        x.days(5);
        due.is("faded", x.live(), 0);
        due.is("house anew", x.house(), 21);
        due.is("the day is 0", x.count(4), 0);
        due.is("all live", x.live(), 3);
        due.is("all known as told", x.knows(0) * 10 + x.knows(1), 11);
        due.is("said on day 0", x.fades(0), 10);
        due.is("what was kept is gone (0)", x.again(0), OnlyNamed.STATE);
        due.is("what was kept is gone (1)", x.again(1), OnlyNamed.STATE);
        due.is("lines stay", x.count(5), 1);
        due.is("a smaller house", Due.settle(x, "H0"), 0);
        due.is("a smaller house has no things", x.sound(0, 0), OnlyNamed.UNKNOWN);
        due.is("a smaller house has no people", x.lifts(0), OnlyNamed.UNKNOWN);
        due.is("a smaller house: live", x.live(), 0);
        due.is("a smaller house: sounds", x.count(7), 0);
        due.is("a smaller house: twins", x.twins(1), 0);
        due.is("a smaller house: times", x.times(1), OnlyNamed.OUTSIDE);
    }

    // Promise 6
    private static void sound() {
        OnlyNamed x = Due.houseOf("H0NfNabcdeNcb");
        due.is("sound(0, 0)", x.sound(0, 0), 5);
        due.is("sound(0, 1)", x.sound(0, 1), OnlyNamed.NONE);
        for (int i = 0; i < 5; i++) {
            due.is("sound(1, " + i + ")", x.sound(1, i), i);
        }
        due.is("sound(1, 5)", x.sound(1, 5), OnlyNamed.NONE);
        due.is("sound(2, 0)", x.sound(2, 0), 2);
        due.is("sound(2, 1)", x.sound(2, 1), 1);
        due.is("sound(2, 2)", x.sound(2, 2), OnlyNamed.NONE);
        for (int odd : ODD) {
            due.is("sound(1, " + odd + ")", x.sound(1, odd), OnlyNamed.NONE);
            due.is("sound(" + odd + ", 0)", x.sound(odd, 0), OnlyNamed.UNKNOWN);
        }
        due.is("sound(3, 0)", x.sound(3, 0), OnlyNamed.UNKNOWN);
        due.is("sound(3, 9)", x.sound(3, 9), OnlyNamed.UNKNOWN);
    }

    private static void apart(String one, String other, int want) {
        OnlyNamed x = Due.houseOf("H0N" + one + "N" + other);
        due.is("off of " + one + ", " + other, x.off(0, 1), want);
        due.is("off of " + other + ", " + one, x.off(1, 0), want);
        due.is("off of itself", x.off(0, 0), 0);
    }

    // Promise 7
    private static void off() {
        apart("a", "b", 1);
        apart("a", "ab", 1);
        apart("b", "ab", 1);
        apart("a", "bc", 2);
        apart("ab", "ba", 2);
        apart("abc", "cab", 2);
        apart("abcde", "bcdea", 2);
        apart("abcde", "bcdef", 2);
        apart("abcde", "edcba", 4);
        apart("abcde", "fffff", 5);
        apart("a", "fffff", 5);
        apart("f", "abcde", 5);
        apart("e", "abcde", 4);
        apart("abab", "baba", 2);
        apart("aabbc", "abc", 2);
        apart("abcd", "acbd", 2);
        apart("aceb", "bdfa", 4);
        OnlyNamed x = Due.houseOf("H0NaNbb");
        x.days(50);
        due.is("off of names that are not live", x.off(0, 1), 2);
        for (int odd : new int[] {2, -1, Integer.MIN_VALUE, Integer.MAX_VALUE}) {
            due.is("off(" + odd + ", 0)", x.off(odd, 0), OnlyNamed.UNKNOWN);
            due.is("off(0, " + odd + ")", x.off(0, odd), OnlyNamed.UNKNOWN);
        }
    }

    // Promise 8
    private static void near() {
        String names = "NaNbNabcNabcdNfeNfedcb";
        OnlyNamed x = Due.houseOf("H0" + names);
        for (int thing = 0; thing < 6; thing++) {
            due.is("r 0: near(" + thing + ")", x.near(thing), 0);
        }
        x = Due.houseOf("H1" + names);
        due.is("r 1: near(0)", x.near(0), 2);
        due.is("r 1: near(1)", x.near(1), 1);
        due.is("r 1: near(2)", x.near(2), 8);
        due.is("r 1: near(3)", x.near(3), 4);
        due.is("r 1: near(4)", x.near(4), 0);
        due.is("r 1: near(5)", x.near(5), 0);
        x = Due.houseOf("H2" + names);
        due.is("r 2: near(0)", x.near(0), 2 + 4 + 16);
        due.is("r 2: near(1)", x.near(1), 1 + 4 + 16);
        due.is("r 2: near(3)", x.near(3), 4);
        x = Due.houseOf("H3" + names);
        due.is("r 3: near(0)", x.near(0), 2 + 4 + 8 + 16);
        due.is("r 3: near(5)", x.near(5), 16);
        due.is("near(6)", x.near(6), OnlyNamed.UNKNOWN);
        due.is("near(-1)", x.near(-1), OnlyNamed.UNKNOWN);
        due.is("near(MAX)", x.near(Integer.MAX_VALUE), OnlyNamed.UNKNOWN);
        x = Due.houseOf("H1NaNbNcP1K00");
        x.days(9);
        x.say(0, 0, 0);
        due.is("on day 9 all are near", x.near(0), 6);
        x.days(1);
        due.is("near to no faded one", x.near(0), 0);
        due.is("near of a faded one", x.near(1), OnlyNamed.STATE);
    }

    // Promise 9
    private static void knows() {
        OnlyNamed x = Due.houseOf("H0NaNbNcP1P1P1K00K20K11");
        due.is("knows(0)", x.knows(0), 5);
        due.is("knows(1)", x.knows(1), 2);
        due.is("knows(2)", x.knows(2), 0);
        due.is("knows(3)", x.knows(3), OnlyNamed.UNKNOWN);
        due.is("knows(-1)", x.knows(-1), OnlyNamed.UNKNOWN);
        due.is("knows(MIN)", x.knows(Integer.MIN_VALUE), OnlyNamed.UNKNOWN);
        x.days(9);
        due.is("knows on the last day", x.knows(0), 5);
        x.days(1);
        due.is("nobody knows what faded", x.knows(0) + x.knows(1), 0);
    }

    // Promise 10
    private static void live() {
        OnlyNamed x = Due.houseOf("H0NaNbNcP1K01");
        due.is("live on day 0", x.live(), 7);
        x.days(9);
        due.is("live on day 9", x.live(), 7);
        x.say(0, 1, 0);
        x.days(1);
        due.is("live on day 10", x.live(), 2);
        x.days(8);
        due.is("live on day 18", x.live(), 2);
        x.days(1);
        due.is("live on day 19", x.live(), 0);
    }

    // Promise 11
    private static void days() {
        OnlyNamed x = Due.houseOf("H0NaNbNcP1K01");
        for (int odd : new int[] {0, 100, -1, Integer.MIN_VALUE, Integer.MAX_VALUE}) {
            due.is("days(" + odd + ")", x.days(odd), OnlyNamed.OUTSIDE);
        }
        due.is("no day went by", x.count(4), 0);
        due.is("days(1)", x.days(1), 0);
        due.is("day 1", x.count(4), 1);
        x.say(0, 1, 0);
        due.is("days(9) to day 10", x.days(9), 5);
        due.is("what faded does not fade again", x.days(1), 2);
        due.is("days(99)", x.days(99), 0);
        due.is("day 110", x.count(4), 110);
        x = Due.houseOf("H0NaNb");
        due.is("days(99) at once", x.days(99), 3);
        due.is("nothing comes back", x.live(), 0);
    }

    // Promise 12
    private static void fades() {
        OnlyNamed x = Due.houseOf("H0NaNbP1K01");
        due.is("fades(0) on day 0", x.fades(0), 10);
        x.days(4);
        due.is("fades(0) on day 4", x.fades(0), 6);
        x.say(0, 1, 0);
        due.is("fades(1), said on day 4", x.fades(1), 10);
        x.days(5);
        due.is("fades(0) on day 9", x.fades(0), 1);
        due.is("fades(1) on day 9", x.fades(1), 5);
        due.is("in so many days it is not live", x.days(1), 1);
        due.is("fades of a faded one", x.fades(0), OnlyNamed.STATE);
        due.is("fades(2)", x.fades(2), OnlyNamed.UNKNOWN);
        due.is("fades(-1)", x.fades(-1), OnlyNamed.UNKNOWN);
        due.is("fades(MAX)", x.fades(Integer.MAX_VALUE), OnlyNamed.UNKNOWN);
    }
}
