/** Promises 17 to 23: carried. */
public final class CarriedTest {
    private static final Due due = new Due("CarriedTest");
    private static final int[] NOT_BITS = {-1, Integer.MIN_VALUE, Integer.MAX_VALUE, 256, 1 << 16};
    private static final int[] NOBODY = {-1, 6, 7, Integer.MIN_VALUE, Integer.MAX_VALUE};

    public static void main(String[] args) {
        lifts();
        stands();
        carries();
        carriesLeast();
        times();
        timesOfMany();
        worth();
        upkeep();
        mayHave();
        due.end();
    }

    // Promise 17
    private static void lifts() {
        OnlyNamed x = Due.houseOf("H1NabNcdefNeNfNfedcbP4P1P9K00K01K02K03K12K10K24K21");
        due.is("lifts(0): two are near", x.lifts(0), 3);
        due.is("lifts(1): near or too heavy", x.lifts(1), 0);
        due.is("lifts(2)", x.lifts(2), 18);
        x.days(9);
        x.say(0, 2, 0);
        x.days(1);
        due.is("lifts(0): only the live one, near to none now", x.lifts(0), 4);
        due.is("lifts(2): nothing is live", x.lifts(2), 0);
        x = Due.houseOf("H0NaNabNabcP2P3K00K01K02K12");
        due.is("weighs just as much as it can bear", x.lifts(0), 3);
        due.is("lifts(1)", x.lifts(1), 4);
        due.is("lifts(2)", x.lifts(2), OnlyNamed.UNKNOWN);
        due.is("lifts(3)", x.lifts(3), OnlyNamed.UNKNOWN);
        for (int odd : NOBODY) {
            due.is("lifts(" + odd + ")", x.lifts(odd), OnlyNamed.UNKNOWN);
        }
    }

    // Promise 18
    private static void stands() {
        OnlyNamed x = Due.houseOf("H0NaNabNabcNfP4P9K00K01K02K03K12K11");
        due.is("nothing is borne", x.stands(0, 0), OnlyNamed.NONE);
        due.is("stands(0, 1)", x.stands(0, 1), OnlyNamed.NONE);
        due.is("stands(0, 11): just so much", x.stands(0, 11), OnlyNamed.NONE);
        due.is("stands(0, 7): too much", x.stands(0, 7), 2);
        due.is("stands(0, 5)", x.stands(0, 5), OnlyNamed.NONE);
        due.is("stands(0, 13): too much", x.stands(0, 13), 3);
        due.is("stands(0, 15): the first that is too much", x.stands(0, 15), 2);
        due.is("stands(1, 7): not known", x.stands(1, 7), 0);
        due.is("stands(1, 14): the last not known", x.stands(1, 14), 3);
        due.is("stands(1, 6)", x.stands(1, 6), OnlyNamed.NONE);
        for (int odd : NOBODY) {
            due.is("stands(" + odd + ", 0)", x.stands(odd, 0), OnlyNamed.UNKNOWN);
        }
        due.is("stands(2, 16): UNKNOWN comes first", x.stands(2, 16), OnlyNamed.UNKNOWN);
        due.is("stands(0, 16)", x.stands(0, 16), OnlyNamed.OUTSIDE);
        for (int odd : NOT_BITS) {
            due.is("stands(0, " + odd + ")", x.stands(0, odd), OnlyNamed.OUTSIDE);
        }
        x.days(10);
        due.is("what is not live is not lifted", x.stands(0, 1), 0);
        due.is("nothing is borne still", x.stands(0, 0), OnlyNamed.NONE);
        x = Due.houseOf("H1NaNbP5K00K01");
        due.is("what is near is not lifted", x.stands(0, 2), 1);
    }

    // Promise 19
    private static void carries() {
        OnlyNamed x = Due.houseOf("H0NaNbNcdP2P2K00K01K02K10K11");
        due.is("carries(0, 0)", x.carries(0, 0), 0);
        due.is("carries(0, 3): the other one has them", x.carries(0, 3), 0);
        due.is("carries(1, 3)", x.carries(1, 3), 3);
        due.is("carries(0, 7)", x.carries(0, 7), 4);
        due.is("carries(1, 7)", x.carries(1, 7), 3);
        due.is("carries(0, 4)", x.carries(0, 4), 4);
        due.is("carries(1, 4)", x.carries(1, 4), 0);
        for (int odd : NOBODY) {
            due.is("carries(" + odd + ", 1)", x.carries(odd, 1), OnlyNamed.UNKNOWN);
            due.is("carries(" + odd + ", -1): UNKNOWN comes first", x.carries(odd, -1), OnlyNamed.UNKNOWN);
        }
        due.is("carries(2, 0)", x.carries(2, 0), OnlyNamed.UNKNOWN);
        due.is("carries(0, 8)", x.carries(0, 8), OnlyNamed.OUTSIDE);
        for (int odd : NOT_BITS) {
            due.is("carries(0, " + odd + ")", x.carries(0, odd), OnlyNamed.OUTSIDE);
        }
        x = Due.houseOf("H0NaNbNcdNdP2P2K00K01K02K10K11K03");
        due.is("too much for one time", x.carries(0, 15), OnlyNamed.STATE);
        due.is("too much for one time (1)", x.carries(1, 15), OnlyNamed.STATE);
        x = Due.houseOf("H0NaNbP9");
        due.is("nobody knows them", x.carries(0, 1), OnlyNamed.STATE);
        due.is("nothing can be carried always", x.carries(0, 0), 0);
    }

    private static void carriesLeast() {
        // Three people know all of a, b, c, de: 0 has the least bits that leave what 1 and 2 can bear.
        String all = "K00K01K02K03K10K11K12K13K20K21K22K23";
        OnlyNamed x = Due.houseOf("H0NaNbNcNdeP3P1P2" + all);
        due.is("first way: 0", x.carries(0, 15), 3);
        due.is("first way: 1", x.carries(1, 15), 4);
        due.is("first way: 2", x.carries(2, 15), 8);
        due.is("first way of 7: 0", x.carries(0, 7), 0);
        due.is("first way of 7: 1", x.carries(1, 7), 1);
        due.is("first way of 7: 2", x.carries(2, 7), 6);
        due.is("first way of 8: 0", x.carries(0, 8), 0);
        due.is("first way of 8: 1", x.carries(1, 8), 0);
        due.is("first way of 8: 2", x.carries(2, 8), 8);
        // The least load by bits, ab and ac, is more than 0 can bear.
        x = Due.houseOf("H0NabNacNdefP3P4K00K01K02K10K11K12");
        due.is("the least that is borne: 0", x.carries(0, 7), 4);
        due.is("the least that is borne: 1", x.carries(1, 7), 3);
        // The least bits, not the fewest things: 0 must have c (4) or a and b (3).
        x = Due.houseOf("H0NaNbNcdP2P2K00K01K02K10K11K12");
        due.is("bits, not things: 0", x.carries(0, 7), 3);
        due.is("bits, not things: 1", x.carries(1, 7), 4);
    }

    // Promise 20
    private static void times() {
        OnlyNamed x = Due.houseOf("H0NaNbNcNdeP1P2K00K01K02K13");
        due.is("times(0)", x.times(0), 0);
        due.is("times(1)", x.times(1), 1);
        due.is("times(3)", x.times(3), 2);
        due.is("times(7)", x.times(7), 3);
        due.is("times(8)", x.times(8), 1);
        due.is("times(15)", x.times(15), 3);
        due.is("times(9)", x.times(9), 1);
        due.is("times(16)", x.times(16), OnlyNamed.OUTSIDE);
        for (int odd : NOT_BITS) {
            due.is("times(" + odd + ")", x.times(odd), OnlyNamed.OUTSIDE);
        }
        x.days(10);
        due.is("nothing is lifted", x.times(1), OnlyNamed.NONE);
        due.is("nothing needs no time", x.times(0), 0);
        x = Due.houseOf("H0NaNb");
        due.is("no people", x.times(1), OnlyNamed.NONE);
        due.is("no people, no things", x.times(0), 0);
        x = Due.houseOf("H0NaNbP1K00");
        due.is("one of them is lifted by nobody", x.times(3), OnlyNamed.NONE);
        due.is("the other one is", x.times(1), 1);
        x = Due.houseOf("H1NaNbP1K00");
        due.is("near to another one", x.times(1), OnlyNamed.NONE);
    }

    private static void timesOfMany() {
        OnlyNamed y = Due.houseOf("H0NaNbNcNdNeNfNaaP1P1P1P1P1P1K00K01K02K03K04K05K10K11K12K13K14K15K20K21K30K31K42");
        due.is("five by five of them", y.times(31), 1);
        due.is("four at one time", y.times(15), 1);
        due.is("one by three of them", y.times(7), 1);
        due.is("all six", y.times(63), 2);
        OnlyNamed x = Due.houseOf("H0NaNbNcNdNeNfNaaNabP1K00K01K02K03K04K05");
        due.is("one by one", x.times(63), 6);
        due.is("the heavy ones", x.times(64), OnlyNamed.NONE);
        x = Due.houseOf("H0NaNbNcNdNeNfNaaNabP9P1K00K01K02K03K04K05K06K07K10");
        due.is("weights 1 1 1 1 1 1 2 2 of 10 with 9 and 1", x.times(255), 1);
        x = Due.houseOf("H0NabcNabdNabeNabfNaaP6K00K01K02K03K04");
        due.is("3 3, 3 3, 2", x.times(31), 3);
        due.is("3 3, 3 3", x.times(15), 2);
        due.is("3 2, 3", x.times(19), 2);
        x = Due.houseOf("H0NabcNabdNabeNabNacNadP8P1K00K01K02K03K04K05");
        due.is("3 3 2, 3 2 2", x.times(63), 2);
        x = Due.houseOf("H0NabcdNabceNabcNabdNabP7K00K01K02K03K04");
        due.is("4 3, 4 3, 2", x.times(31), 3);
        due.is("4 3, 4 3", x.times(15), 2);
    }

    // Promise 21
    private static void worth() {
        OnlyNamed x = Due.houseOf("H0NaNbNcNdeP1P1P2P9K00K01K02K10K11K12K23");
        due.is("worth(0)", x.worth(0), 1);
        due.is("worth(1)", x.worth(1), 1);
        due.is("worth(2)", x.worth(2), 99);
        due.is("worth(3)", x.worth(3), 0);
        due.is("nothing changed", x.worth(0), 1);
        due.is("worth(4)", x.worth(4), OnlyNamed.UNKNOWN);
        for (int odd : NOBODY) {
            due.is("worth(" + odd + ")", x.worth(odd), OnlyNamed.UNKNOWN);
        }
        x.days(10);
        for (int person = 0; person < 4; person++) {
            due.is("nobody lifts anything: worth(" + person + ")", x.worth(person), 0);
        }
        x = Due.houseOf("H0NaNbNcNdNeNfNaaNabP9P1K00K01K02K03K04K05K06K07K10K11K12K13K14K15");
        due.is("what nobody else lifts", x.worth(0), 99);
        due.is("what one more lifts", x.worth(1), 1);
        x = Due.houseOf("H0NaNbNcNdNeNfP6P1K00K01K02K03K04K05K10K11K12K13K14K15");
        due.is("six times for one", x.worth(0), 5);
        due.is("none for the other", x.worth(1), 0);
    }

    // Promise 22
    private static void upkeep() {
        OnlyNamed x = Due.houseOf("H0NaNbNcP1K00K01");
        due.is("upkeep(7, 0)", x.upkeep(7, 0), 0);
        due.is("upkeep(7, 9)", x.upkeep(7, 9), 0);
        due.is("upkeep(7, 10)", x.upkeep(7, 10), 3);
        due.is("upkeep(5, 10)", x.upkeep(5, 10), 2);
        due.is("upkeep(1, 18)", x.upkeep(1, 18), 1);
        due.is("upkeep(1, 19)", x.upkeep(1, 19), 2);
        due.is("upkeep(4, 99): that nobody knows it is no matter", x.upkeep(4, 99), 10);
        due.is("upkeep(0, 99)", x.upkeep(0, 99), 0);
        due.is("upkeep(7, 100)", x.upkeep(7, 100), OnlyNamed.OUTSIDE);
        due.is("upkeep(7, -1)", x.upkeep(7, -1), OnlyNamed.OUTSIDE);
        due.is("upkeep(7, MAX)", x.upkeep(7, Integer.MAX_VALUE), OnlyNamed.OUTSIDE);
        due.is("upkeep(7, MIN)", x.upkeep(7, Integer.MIN_VALUE), OnlyNamed.OUTSIDE);
        due.is("upkeep(8, 1)", x.upkeep(8, 1), OnlyNamed.OUTSIDE);
        for (int odd : NOT_BITS) {
            due.is("upkeep(" + odd + ", 1)", x.upkeep(odd, 1), OnlyNamed.OUTSIDE);
        }
        x.days(4);
        x.say(0, 0, 0);
        x.days(5);
        due.is("on day 9: upkeep(7, 0)", x.upkeep(7, 0), 0);
        due.is("on day 9: upkeep(7, 1)", x.upkeep(7, 1), 2);
        due.is("on day 9: upkeep(7, 5)", x.upkeep(7, 5), 3);
        due.is("on day 9: upkeep(1, 4)", x.upkeep(1, 4), 0);
        due.is("on day 9: upkeep(1, 13)", x.upkeep(1, 13), 1);
        due.is("on day 9: upkeep(1, 14)", x.upkeep(1, 14), 2);
        x.days(1);
        due.is("only the live one", x.upkeep(7, 99), 11);
        due.is("what is not live", x.upkeep(6, 99), 0);
    }

    // Promise 23
    private static void mayHave() {
        OnlyNamed x = Due.houseOf("H1NabNcdefNeNfP1P3P9K00K10K20K01K11K21K02K12");
        due.is("mayHave(0): too heavy for one", x.mayHave(0), 6);
        due.is("mayHave(1)", x.mayHave(1), 4);
        due.is("mayHave(2): near to another one", x.mayHave(2), 0);
        due.is("mayHave(3): nobody knows it", x.mayHave(3), 0);
        due.is("mayHave(4)", x.mayHave(4), OnlyNamed.UNKNOWN);
        for (int odd : new int[] {-1, 8, 9, Integer.MIN_VALUE, Integer.MAX_VALUE}) {
            due.is("mayHave(" + odd + ")", x.mayHave(odd), OnlyNamed.UNKNOWN);
        }
        x.days(10);
        due.is("mayHave of what is not live", x.mayHave(0), 0);
        x = Due.houseOf("H0NaNbP1P1P1P1P1P1K00K50K01");
        due.is("the first and the last one", x.mayHave(0), 33);
        due.is("the first one", x.mayHave(1), 1);
    }
}
