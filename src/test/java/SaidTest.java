/** Promises 13 to 16: said, given. */
public final class SaidTest {
    private static final Due due = new Due("SaidTest");
    private static final int[] ODD = {-1, 6, 8, Integer.MIN_VALUE, Integer.MAX_VALUE};

    public static void main(String[] args) {
        say();
        sayRefusals();
        give();
        giveRefusals();
        fresh();
        freshOfLiveOnesOnly();
        freshAsTold();
        noFresh();
        anew();
        anewRefusals();
        due.end();
    }

    // Promise 13
    private static void say() {
        OnlyNamed x = Due.houseOf("H0NaNbP1P1P1K00K11");
        due.is("say(0, 0, 0)", x.say(0, 0, 0), 1);
        due.is("say(0, 0, 1): it may hear itself", x.say(0, 0, 1), 1);
        due.is("say(0, 0, 4)", x.say(0, 0, 4), 5);
        due.is("knows(0)", x.knows(0), 5);
        due.is("say(2, 0, 2): who heard can say", x.say(2, 0, 2), 7);
        due.is("the other name is as it was", x.knows(1), 2);
        x.days(9);
        due.is("say(1, 1, 7)", x.say(1, 1, 7), 7);
        due.is("said on the day", x.fades(1), 10);
        due.is("not said", x.fades(0), 1);
        due.is("the day stays", x.count(4), 9);
    }

    private static void sayRefusals() {
        OnlyNamed x = Due.houseOf("H0NaNbP1P1K00");
        for (int odd : ODD) {
            due.is("say(" + odd + ", 0, 0)", x.say(odd, 0, 0), OnlyNamed.UNKNOWN);
            due.is("say(0, " + odd + ", 0)", x.say(0, odd, 0), OnlyNamed.UNKNOWN);
        }
        due.is("say(2, 0, 0)", x.say(2, 0, 0), OnlyNamed.UNKNOWN);
        due.is("say(0, 2, 0)", x.say(0, 2, 0), OnlyNamed.UNKNOWN);
        for (int odd : new int[] {-1, 4, 64, Integer.MIN_VALUE, Integer.MAX_VALUE}) {
            due.is("say(0, 0, " + odd + ")", x.say(0, 0, odd), OnlyNamed.OUTSIDE);
            due.is("UNKNOWN comes first: say(2, 0, " + odd + ")", x.say(2, 0, odd), OnlyNamed.UNKNOWN);
            due.is("UNKNOWN comes first: say(0, 2, " + odd + ")", x.say(0, 2, odd), OnlyNamed.UNKNOWN);
            due.is("OUTSIDE comes first: say(0, 1, " + odd + ")", x.say(0, 1, odd), OnlyNamed.OUTSIDE);
        }
        x.days(3);
        due.is("say(0, 1, 3)", x.say(0, 1, 3), OnlyNamed.STATE);
        due.is("say(1, 0, 3)", x.say(1, 0, 3), OnlyNamed.STATE);
        due.is("nothing was said", x.fades(0) + x.fades(1), 14);
        due.is("nobody heard", x.knows(0) * 10 + x.knows(1), 10);
        x.days(7);
        due.is("a faded name", x.say(0, 0, 0), OnlyNamed.STATE);
    }

    // Promise 14
    private static void give() {
        OnlyNamed x = Due.houseOf("H0NaNbP1P1P1K00K20K01");
        due.is("give(0, 1, 0)", x.give(0, 1, 0), 6);
        due.is("knows(0)", x.knows(0), 6);
        due.is("the other name stays", x.knows(1), 1);
        due.is("give(1, 2, 0): to one who knows it", x.give(1, 2, 0), 4);
        x.days(9);
        due.is("give(2, 0, 0)", x.give(2, 0, 0), 1);
        due.is("given is said", x.fades(0), 10);
        due.is("the other one is not", x.fades(1), 1);
    }

    private static void giveRefusals() {
        OnlyNamed x = Due.houseOf("H0NaNbP1P1K00");
        for (int odd : ODD) {
            due.is("give(" + odd + ", 0, 0)", x.give(odd, 0, 0), OnlyNamed.UNKNOWN);
            due.is("give(0, " + odd + ", 0)", x.give(0, odd, 0), OnlyNamed.UNKNOWN);
            due.is("give(0, 1, " + odd + ")", x.give(0, 1, odd), OnlyNamed.UNKNOWN);
            due.is("give(0, 0, " + odd + "): UNKNOWN comes first", x.give(0, 0, odd), OnlyNamed.UNKNOWN);
        }
        due.is("give(2, 2, 0)", x.give(2, 2, 0), OnlyNamed.UNKNOWN);
        due.is("give(0, 1, 2)", x.give(0, 1, 2), OnlyNamed.UNKNOWN);
        x.days(2);
        due.is("give(0, 0, 0): both are one", x.give(0, 0, 0), OnlyNamed.STATE);
        due.is("give(1, 0, 0): it does not know it", x.give(1, 0, 0), OnlyNamed.STATE);
        due.is("give(0, 1, 1): it does not know it", x.give(0, 1, 1), OnlyNamed.STATE);
        due.is("nothing was said", x.fades(0) + x.fades(1), 16);
        due.is("nothing was given", x.knows(0) * 10 + x.knows(1), 10);
        x.days(8);
        due.is("a faded name", x.give(0, 1, 0), OnlyNamed.STATE);
    }

    private static void freshOf(String house, String want) {
        due.same("fresh of " + house, Due.freshOf(Due.houseOf(house)), want);
    }

    // Promise 15
    private static void fresh() {
        freshOf("H0", "a");
        freshOf("H3", "a");
        freshOf("H0Nb", "a");
        freshOf("H0Na", "b");
        freshOf("H0NaNc", "b");
        freshOf("H0NaNbNcNdNeNf", "aa");
        freshOf("H0NaNbNcNdNeNfNaaNac", "ab");
        freshOf("H1Na", "bb");
        freshOf("H1Nbc", "a");
        freshOf("H1Nab", "c");
        freshOf("H1NabNcdNef", "ba");
        freshOf("H2Na", "bbb");
        freshOf("H3Na", "bbbb");
        freshOf("H3Nabc", "bdaa");
        freshOf("H3Nabcde", "a");
        freshOf("H2Nabcde", "a");
        freshOf("H2Nabcd", "a");
        freshOf("H2Nabc", "d");
        freshOf("H2Nbbb", "a");
        freshOf("H3Nbbbb", "a");
    }

    private static void freshOfLiveOnesOnly() {
        OnlyNamed x = Due.houseOf("H0NaNbNcP1K01");
        due.is("fresh(0)", x.fresh(0), 3);
        due.is("fresh(1)", x.fresh(1), OnlyNamed.NONE);
        for (int odd : new int[] {5, 6, -1, Integer.MIN_VALUE, Integer.MAX_VALUE}) {
            due.is("fresh(" + odd + ")", x.fresh(odd), OnlyNamed.NONE);
        }
        x.days(9);
        x.say(0, 1, 0);
        due.same("all live", Due.freshOf(x), "d");
        x.days(1);
        due.same("one live", Due.freshOf(x), "a");
        due.is("it is only told", x.live(), 2);
        due.same("no name is changed", Due.nameOf(x, 0), "a");
    }

    /** Looks at all names, in the order that the document tells, with the distances that off answers. */
    private static void freshAsTold() {
        String[] houses = {
            "H1NaNbNccNaddNbeef", "H2NabNcdNefNabcNdef", "H3NabNcdNefNabcd", "H3NabcdeNbcdefNcdefaNdefabNefabc",
            "H2NaNbcNdefNabcdNefabc", "H3NaNbbNcccNddddNeeeee", "H1NaNbNcNdNeNfNabNba"};
        for (String house : houses) {
            freshOf(house, slowFresh(house));
        }
    }

    private static String slowFresh(String house) {
        int r = house.charAt(1) - '0';
        String[] others = house.substring(3).split("N");
        for (int length = 1, many = 6; length <= 5; length++, many *= 6) {
            for (int code = 0; code < many; code++) {
                StringBuilder name = new StringBuilder();
                for (int rest = many / 6; rest > 0; rest /= 6) {
                    name.append((char) ('a' + code / rest % 6));
                }
                if (isFar(name.toString(), others, r)) {
                    return name.toString();
                }
            }
        }
        return "";
    }

    private static boolean isFar(String name, String[] others, int r) {
        for (String other : others) {
            if (name.equals(other) || PlainModel.apart(name, other) <= r) {
                return false;
            }
        }
        return true;
    }

    private static void noFresh() {
        OnlyNamed x = Due.houseOf(NO_FRESH);
        due.is("no fresh name: fresh(0)", x.fresh(0), OnlyNamed.NONE);
        due.is("no fresh name: fresh(4)", x.fresh(4), OnlyNamed.NONE);
        due.is("no fresh name: fresh(-1)", x.fresh(-1), OnlyNamed.NONE);
    }

    // Promise 16
    private static void anew() {
        OnlyNamed x = Due.houseOf("H1NabNcdP1P1P1K00K01K11K21");
        x.days(9);
        x.say(0, 0, 0);
        x.days(3);
        due.same("fresh", Due.freshOf(x), "c");
        due.is("anew(2, 1)", x.anew(2, 1), 1);
        due.same("the name", Due.nameOf(x, 1), "c");
        due.is("knows(1)", x.knows(1), 4);
        due.is("said on the day", x.fades(1), 10);
        due.is("live", x.live(), 3);
        due.is("the other stays", x.fades(0), 7);
        due.is("sounds of all", x.count(7), 3);
        due.is("it is live now", x.anew(0, 1), OnlyNamed.STATE);
        due.is("it weighs as its new name has sounds", x.lifts(2), 2);
        x = Due.houseOf("H0NaNbP1");
        x.days(10);
        due.is("its own old name", x.anew(0, 0), 1);
        due.same("its own old name", Due.nameOf(x, 0), "a");
        due.is("the next one", x.anew(0, 1), 1);
        due.same("the next one", Due.nameOf(x, 1), "b");
        x = Due.houseOf("H0NaNbP1");
        x.days(10);
        due.is("the old name of another one that is not live", x.anew(0, 1), 1);
        due.same("the old name of another one that is not live", Due.nameOf(x, 1), "a");
        due.is("they are off by nothing", x.off(0, 1), 0);
        due.is("they are not near", x.near(1), 0);
        x = Due.houseOf("H3NabNbP1K00");
        x.days(9);
        x.say(0, 0, 0);
        x.days(1);
        due.is("a long one", x.anew(0, 1), 4);
        due.same("a long one", Due.nameOf(x, 1), "bcca");
    }

    private static void anewRefusals() {
        OnlyNamed x = Due.houseOf("H0NaNbP1P1");
        for (int odd : ODD) {
            due.is("anew(" + odd + ", 0)", x.anew(odd, 0), OnlyNamed.UNKNOWN);
            due.is("anew(0, " + odd + ")", x.anew(0, odd), OnlyNamed.UNKNOWN);
        }
        due.is("anew(2, 0)", x.anew(2, 0), OnlyNamed.UNKNOWN);
        due.is("anew(0, 2)", x.anew(0, 2), OnlyNamed.UNKNOWN);
        due.is("anew of a live one", x.anew(0, 0), OnlyNamed.STATE);
        x.days(9);
        due.is("anew of one that is live still", x.anew(0, 0), OnlyNamed.STATE);
        due.same("nothing changed", Due.nameOf(x, 0), "a");
        due.is("nothing changed: fades", x.fades(0), 1);
        due.is("nothing changed: knows", x.knows(0), 0);
    }

    private static final String NO_FRESH = "H3NcacNfaafNebbeNccfNbddbNaffaNfccNdeed";
}
