/** The edges of part 2: LIFTS, LOADS, AT ONE TIME, TIMES, WORTH, UPKEEP, MAY HAVE (promises 17 to 23), sentence by sentence. */
public final class EdgesOfLoadsTest {
    private static final Due due = new Due("EdgesOfLoadsTest");
    private static final int NONE = -9, STATE = -3, OUTSIDE = -2;
    private static final String[] OF_LENGTH = {"", "f", "fe", "fed", "fedc", "fedcb"};
    private static final String[] ONES = {"a", "b", "c", "d", "e", "f"};

    public static void main(String[] args) {
        noMoreThanItCanBear();
        ifItKnowsItsName();
        nearToNoOtherOne();
        nearOnesAmongOthers();
        noMoreTogetherThanItCanBear();
        theFirstThatIsTooMuch();
        theFirstThatIsNotLifted();
        noThings();
        noPeople();
        bitsOfThings();
        eachIsGivenToOnePerson();
        theFirstWay();
        theFirstWayBySix();
        byHowFewTimes();
        byHowFewTimesByOne();
        theMostTimes();
        timesForNone();
        worthOfEach();
        worth99();
        upkeepOfDays();
        upkeepOfSomeThings();
        upkeepOfTheMost();
        mayHaveWhoLifts();
        due.end();
    }

    private static String name(int length, int which) {
        return OF_LENGTH[length].replace('f', ONES[which].charAt(0));
    }

    /** "it weighs no more than it can bear": by each length and each that a PERSON can bear. */
    private static void noMoreThanItCanBear() {
        for (int weight = 1; weight <= 5; weight++) {
            for (int bears = 1; bears <= 9; bears++) {
                OnlyNamed x = Due.houseOf("H0N" + OF_LENGTH[weight] + "P" + bears + "P1K00");
                String what = weight + " for one who bears " + bears + ": ";
                boolean can = weight <= bears;
                due.is(what + "lifts", x.lifts(0), can ? 1 : 0);
                due.is(what + "mayHave", x.mayHave(0), can ? 1 : 0);
                due.is(what + "stands", x.stands(0, 1), can ? NONE : 0);
                due.is(what + "carries", x.carries(0, 1), can ? 1 : STATE);
                due.is(what + "times", x.times(1), can ? 1 : NONE);
                due.is(what + "worth", x.worth(0), can ? 99 : 0);
                due.is(what + "worth of the other one", x.worth(1), 0);
            }
        }
    }

    /** "if it KNOWS its NAME": for each one by itself, and no more when it was given away. */
    private static void ifItKnowsItsName() {
        for (int p = 0; p < 6; p++) {
            for (int t = 0; t < 6; t++) {
                OnlyNamed x = Due.houseOf("H0NaNbNcNdNeNfP1P1P1P1P1P1K" + p + t);
                for (int q = 0; q < 6; q++) {
                    due.is(p + " knows " + t + ": lifts(" + q + ")", x.lifts(q), q == p ? 1 << t : 0);
                    due.is(p + " knows " + t + ": stands(" + q + ")", x.stands(q, 1 << t), q == p ? NONE : t);
                    due.is(p + " knows " + t + ": mayHave(" + q + ")", x.mayHave(q), q == t ? 1 << p : 0);
                }
                int o = (p + 1) % 6;
                x.give(p, o, t);
                due.is(p + " gave " + t + ": lifts(" + p + ")", x.lifts(p), 0);
                due.is(p + " gave " + t + " to " + o + ": lifts(" + o + ")", x.lifts(o), 1 << t);
            }
        }
    }

    /** "that is NEAR to no other one": whoever knows that one, or if nobody does. */
    private static void nearToNoOtherOne() {
        for (String known : new String[] {"K00", "K00K01", "K00K11", "K00K01K10K11"}) {
            OnlyNamed x = Due.houseOf("H2NaNbcP9P9" + known);
            due.is("near by just r: lifts(0)", x.lifts(0), 0);
            due.is("near by just r: times(1)", x.times(1), NONE);
            due.is("near by just r: mayHave(0)", x.mayHave(0), 0);
            due.is("near by just r: stands(0, 1)", x.stands(0, 1), 0);
            due.is("near by just r: worth(0)", x.worth(0), 0);
            due.is("near by just r: carries(0, 1)", x.carries(0, 1), STATE);
            due.is("near by just r: nothing is carried", x.carries(0, 0), 0);
            x = Due.houseOf("H1NaNbcP9P9" + known);
            due.is("off by more than r: lifts(0)", x.lifts(0) & 1, 1);
        }
        for (int t = 0; t < 2; t++) {
            OnlyNamed x = Due.houseOf("H1NaNbP9K0" + t);
            x.days(9);
            x.say(0, t, 0);
            due.is("near to one that is live: lifts(0)", x.lifts(0), 0);
            x.days(1);
            due.is("near to one that is not live: lifts(0)", x.lifts(0), 1 << t);
            due.is("it is carried then", x.times(1 << t), 1);
        }
    }

    /** Each of two pairs, and a chain, are near; what is near to none is lifted. */
    private static void nearOnesAmongOthers() {
        String known = "K00K01K02K03K04K05";
        int[][] ofThePairs = {{0b000011, 0b001100}, {0b000101, 0b001010}, {0b100001, 0b010010}, {0b000110, 0b110000}};
        for (int[] pairs : ofThePairs) {
            String[] names = new String[6];
            String[][] near = {{"aaa", "aab"}, {"bbb", "bbc"}};
            String[] others = {"ccccc", "dddd"};
            int[] next = {0, 0, 0};
            for (int t = 0; t < 6; t++) {
                int kind = (pairs[0] >> t & 1) == 1 ? 0 : (pairs[1] >> t & 1) == 1 ? 1 : 2;
                names[t] = kind < 2 ? near[kind][next[kind]] : others[next[kind]];
                next[kind]++;
            }
            OnlyNamed x = Due.houseOf("H1N" + String.join("N", names) + "P9" + known);
            due.is("two pairs " + pairs[0] + ", " + pairs[1] + ": lifts(0)", x.lifts(0), 63 - pairs[0] - pairs[1]);
            for (int t = 0; t < 6; t++) {
                int own = 1 << t;
                int pair = (pairs[0] & own) != 0 ? pairs[0] : (pairs[1] & own) != 0 ? pairs[1] : own;
                due.is("two pairs " + pairs[0] + ", " + pairs[1] + ": near(" + t + ")", x.near(t), pair - own);
                due.is("two pairs " + pairs[0] + ", " + pairs[1] + ": mayHave(" + t + ")", x.mayHave(t), pair == own ? 1 : 0);
            }
        }
        OnlyNamed x = Due.houseOf("H1NaNabNabcNabcdNfffNffP9" + known);
        due.is("a chain of four, and two: lifts(0)", x.lifts(0), 0);
        x = Due.houseOf("H1NaNabNabcNabcdNfffNeeP9" + known);
        due.is("a chain of four, and two that are not: lifts(0)", x.lifts(0), 48);
    }

    /** "they weigh no more together than it can bear": just as much, and one more. */
    private static void noMoreTogetherThanItCanBear() {
        for (int one = 1; one <= 5; one++) {
            for (int other = 1; other <= 5; other++) {
                for (int bears = Math.max(one, other); bears <= 9; bears++) {
                    OnlyNamed x = Due.houseOf("H0N" + name(one, 5) + "N" + name(other, 0) + "P" + bears + "K00K01");
                    String what = one + " and " + other + " for one who bears " + bears + ": ";
                    boolean can = one + other <= bears;
                    due.is(what + "stands", x.stands(0, 3), can ? NONE : 1);
                    due.is(what + "carries", x.carries(0, 3), can ? 3 : STATE);
                    due.is(what + "times", x.times(3), can ? 1 : 2);
                    due.is(what + "lifts", x.lifts(0), 3);
                }
            }
        }
    }

    /** "that is too much with those ahead of it": ahead of it in the LOAD, by their numbers. */
    private static void theFirstThatIsTooMuch() {
        OnlyNamed x = Due.houseOf("H0NaNbbNcccNdNeP4K00K01K02K03K04");
        int[][] loads = {
            {1, NONE}, {3, NONE}, {4, NONE}, {5, NONE}, {6, 2}, {7, 2}, {11, NONE}, {9, NONE}, {13, 3}, {12, NONE}, {14, 2}, {15, 2},
            {27, 4}, {28, 4}, {25, NONE}, {29, 3}, {31, 2}, {26, NONE}, {30, 2}, {10, NONE}, {16, NONE}, {20, NONE}, {0, NONE}};
        for (int[] load : loads) {
            due.is("stands(0, " + load[0] + ")", x.stands(0, load[0]), load[1]);
        }
    }

    /** "The first THING of a LOAD that a PERSON does not LIFT": of both reasons the first thing counts. */
    private static void theFirstThatIsNotLifted() {
        OnlyNamed x = Due.houseOf("H0NabNcdNefNaP4P9K00K01K03K12");
        due.is("too much, behind it not lifted: the third, by both", x.stands(0, 7), 2);
        due.is("not lifted ahead of too much", x.stands(0, 13), 2);
        due.is("too much", x.stands(0, 11), 3);
        due.is("the only one is not lifted", x.stands(0, 4), 2);
        due.is("the first is not lifted", x.stands(1, 15), 0);
        due.is("the last is not lifted", x.stands(1, 12), 3);
        due.is("only what is lifted", x.stands(1, 4), NONE);
        x = Due.houseOf("H0NabNcdNefNfaP3K00K01K02");
        due.is("too much ahead of not lifted", x.stands(0, 15), 1);
        due.is("too much ahead of not lifted", x.stands(0, 14), 2);
        due.is("not lifted, though it would be too much as well", x.stands(0, 12), 3);
        OnlyNamed y = Due.houseOf("H0NaNbNcNdNeNfNaaNabP1K07");
        due.is("the eighth is too heavy", y.stands(0, 128), 7);
        due.is("the first of all", y.stands(0, 255), 0);
    }

    /** No things are borne by everybody, carried at one time, in no time. */
    private static void noThings() {
        for (String house : new String[] {"H0P1", "H0NaP1", "H0NaP1K00", "H3NaNbP9P9K00K01"}) {
            OnlyNamed x = Due.houseOf(house);
            due.is(house + ": stands(0, 0)", x.stands(0, 0), NONE);
            due.is(house + ": carries(0, 0)", x.carries(0, 0), 0);
            due.is(house + ": times(0)", x.times(0), 0);
            due.is(house + ": upkeep(0, 99)", x.upkeep(0, 99), 0);
            x.days(10);
            due.is(house + ", nothing is live: carries(0, 0)", x.carries(0, 0), 0);
            due.is(house + ", nothing is live: times(0)", x.times(0), 0);
            due.is(house + ", nothing is live: worth(0)", x.worth(0), 0);
        }
    }

    private static void noPeople() {
        OnlyNamed x = Due.houseOf("H0NaNb");
        due.is("times(0)", x.times(0), 0);
        due.is("times(1)", x.times(1), NONE);
        due.is("times(3)", x.times(3), NONE);
        due.is("times(4)", x.times(4), OUTSIDE);
        due.is("mayHave(0)", x.mayHave(0), 0);
        due.is("upkeep(3, 10)", x.upkeep(3, 10), 2);
    }

    /** "OUTSIDE: things (bits of THINGS)": from none to all, for each number of things. */
    private static void bitsOfThings() {
        String text = "H0P9";
        for (int things = 1; things <= 8; things++) {
            text += "N" + (things <= 6 ? ONES[things - 1] : "a" + ONES[things - 7]);
            OnlyNamed x = Due.houseOf(text);
            int all = (1 << things) - 1;
            int next = all + 1;
            due.is(things + " things: stands, all", x.stands(0, all), 0);
            due.is(things + " things: stands, the last", x.stands(0, next / 2), things - 1);
            due.is(things + " things: stands, one more", x.stands(0, next), OUTSIDE);
            due.is(things + " things: carries, all", x.carries(0, all), STATE);
            due.is(things + " things: carries, one more", x.carries(0, next), OUTSIDE);
            due.is(things + " things: carries, one more and all", x.carries(0, next + all), OUTSIDE);
            due.is(things + " things: times, all", x.times(all), NONE);
            due.is(things + " things: times, one more", x.times(next), OUTSIDE);
            due.is(things + " things: times, -1", x.times(-1), OUTSIDE);
            due.is(things + " things: upkeep, all", x.upkeep(all, 10), things);
            due.is(things + " things: upkeep, the last", x.upkeep(next / 2, 10), 1);
            due.is(things + " things: upkeep, one more", x.upkeep(next, 10), OUTSIDE);
            due.is(things + " things: upkeep, -1", x.upkeep(-1, 10), OUTSIDE);
        }
    }

    /** "if each can be given to one PERSON so that all have LOADS that they bear". */
    private static void eachIsGivenToOnePerson() {
        OnlyNamed x = Due.houseOf("H0NaaNbbNccP3P3K00K01K02K10K11K12");
        due.is("2, 2 for 3, 3", x.times(3), 1);
        due.is("2, 2, 2 for 3, 3: not by halves", x.times(7), 2);
        due.is("2, 2, 2: carries(0)", x.carries(0, 7), STATE);
        due.is("2, 2, 2: carries(1)", x.carries(1, 7), STATE);
        x = Due.houseOf("H0NaNbNcP9P1K00K01K10K12");
        due.is("what only 1 knows, and what it could have, too", x.carries(1, 7), 4);
        due.is("so 0 has the others", x.carries(0, 7), 3);
        x = Due.houseOf("H0NaNbNcP9P1K00K01K11K12");
        due.is("one alone lifts each of two", x.carries(1, 6), 4);
        x = Due.houseOf("H0NaNbP9P1K00K10K11P1K21");
        due.is("handed on: 1 must have a or b, 2 b", x.times(3), 1);
        due.is("handed on: 0", x.carries(0, 3), 0);
        due.is("handed on: 1", x.carries(1, 3), 1);
        due.is("handed on: 2", x.carries(2, 3), 2);
    }

    /** "THE FIRST way: by what PERSON 0 has (the least bits), then PERSON 1 ..". */
    private static void theFirstWay() {
        String all = "K00K01K02K10K11K12K20K21K22";
        OnlyNamed x = Due.houseOf("H0NaNbNcP3P3P3" + all);
        int[] last = {0, 0, 7};
        for (int p = 0; p < 3; p++) {
            due.is("the last one can have all: " + p, x.carries(p, 7), last[p]);
        }
        x = Due.houseOf("H0NaNbNcP3P3P1" + all);
        int[] one = {0, 3, 4};
        for (int p = 0; p < 3; p++) {
            due.is("the last one can have one: " + p, x.carries(p, 7), one[p]);
        }
        x = Due.houseOf("H0NaNbNcP1P1P1" + all);
        int[] each = {1, 2, 4};
        for (int p = 0; p < 3; p++) {
            due.is("each can have one: " + p, x.carries(p, 7), each[p]);
        }
        x = Due.houseOf("H0NaNbNcP1P1P1K02K10K11K12K20K21K22");
        int[] third = {4, 1, 2};
        for (int p = 0; p < 3; p++) {
            due.is("0 lifts the third alone: " + p, x.carries(p, 7), third[p]);
        }
        x = Due.houseOf("H0NabNacNdefP3P4K00K01K02K10K11K12");
        due.is("ab and ac are less bits, but more than 0 can bear", x.carries(0, 7), 4);
        due.is("so 1 has them", x.carries(1, 7), 3);
        x = Due.houseOf("H0NabNacNdefP4P4K00K01K02K10K11K12");
        due.is("ab and ac are just what 0 can bear", x.carries(0, 7), 3);
        due.is("so 1 has def", x.carries(1, 7), 4);
        x = Due.houseOf("H0NaNbNcP2P1P9K00K01K02K10K22");
        int[] lone = {2, 1, 4};
        for (int p = 0; p < 3; p++) {
            due.is("2 lifts c alone, 1 a: " + p, x.carries(p, 7), lone[p]);
        }
    }

    private static void theFirstWayBySix() {
        OnlyNamed x = Due.houseOf("H0NaNbNcNdNeNfNaaNabP1P1P1P1P1P4K00K01K12K13K24K25K30K33K41K45K56K57");
        int[] want = {2, 8, 16, 1, 32, 192};
        int sum = 0;
        // 2 lifts e, f; only it lifts e, so 4 has f, so 0 has b, so 3 has a, so 1 has d, and nobody has c.
        due.is("c can not be carried too", x.carries(0, 255), STATE);
        for (int p = 0; p < 6; p++) {
            due.is("without c: carries(" + p + ")", x.carries(p, 251), want[p]);
            sum |= want[p];
        }
        due.is("together they have all", sum, 251);
        int[] few = {0, 0, 16, 0, 0, 192};
        for (int p = 0; p < 6; p++) {
            due.is("e, aa, ab: carries(" + p + ")", x.carries(p, 16 + 192), few[p]);
        }
        due.is("times of all", x.times(255), 2);
    }

    /** "by how few such times some THINGS are all carried". */
    private static void byHowFewTimes() {
        OnlyNamed x = Due.houseOf("H0NaNbNcNdNeNfP1K00K01K02K03K04K05");
        for (int set = 0; set < 64; set++) {
            due.is("one by one: times(" + set + ")", x.times(set), Integer.bitCount(set));
        }
        x = Due.houseOf("H0NaNbNcNdNeNfP2P1K00K01K02K03K04K05K10K11K12K13K14K15");
        for (int set = 0; set < 64; set++) {
            due.is("three by three: times(" + set + ")", x.times(set), (Integer.bitCount(set) + 2) / 3);
        }
        x = Due.houseOf("H0NabcNabdNabNacNaP6K00K01K02K03K04");
        due.is("3 3, 2 2 1", x.times(31), 2);
        due.is("3 3", x.times(3), 1);
        due.is("3 2 1", x.times(21), 1);
        due.is("3 2 2", x.times(13), 2);
        x = Due.houseOf("H0NabcdNaceNabNacNaP6K00K01K02K03K04");
        due.is("4 2, 3 2 1: the heaviest first would do", x.times(31), 2);
        x = Due.houseOf("H0NabcNabdNabNacNadP6K00K01K02K03K04");
        due.is("3 3, 2 2 2: not 3 2, 3 2, 2", x.times(31), 2);
        x = Due.houseOf("H0NaNbbP2P2K00K01K10");
        due.is("the one that only one lifts is left to it", x.times(3), 1);
    }

    /** Each of six people by itself carries one by one what it alone lifts, or two by two. */
    private static void byHowFewTimesByOne() {
        for (int p = 0; p < 6; p++) {
            for (int bears = 1; bears <= 2; bears++) {
                String people = "P1P1P1P1P1P1".substring(0, 2 * p) + "P" + bears + "P1P1P1P1P1".substring(2 * p);
                String text = "H0NaNbNcNdNeNfNaaaa" + people;
                for (int t = 0; t < 6; t++) {
                    text += "K" + p + t;
                }
                OnlyNamed x = Due.houseOf(text + "K" + p + 6);
                for (int set = 0; set < 64; set += 1 + set % 3) {
                    int want = (Integer.bitCount(set) + bears - 1) / bears;
                    due.is(p + " alone, " + bears + " by " + bears + ": times(" + set + ")", x.times(set), want);
                    due.is(p + " alone: with one that nobody lifts", x.times(set + 64), NONE);
                    due.is(p + " alone: carries", x.carries(p, set), want <= 1 ? set : STATE);
                    due.is(p + " alone: carries of another one", x.carries((p + 1) % 6, set), want <= 1 ? 0 : STATE);
                }
                due.is(p + " alone: worth", x.worth(p), 99);
                due.is(p + " alone: worth of another one", x.worth((p + 5) % 6), 0);
            }
        }
    }

    /** Eight things by one who carries but one at a time. */
    private static void theMostTimes() {
        String names = "";
        String known = "";
        for (int t = 0; t < 8; t++) {
            names += "N" + name(5, t % 6).substring(0, 4) + (t < 6 ? "a" : "b");
            known += "K0" + t;
        }
        for (int bears = 5; bears <= 9; bears++) {
            OnlyNamed x = Due.houseOf("H0" + names + "P" + bears + known);
            due.is("eight of five for one who bears " + bears, x.times(255), 8);
            due.is("seven of five", x.times(127), 7);
            due.is("worth", x.worth(0), 99);
        }
        OnlyNamed x = Due.houseOf("H0" + names + "P4" + known);
        due.is("nobody bears five", x.times(255), NONE);
        due.is("nobody bears five, worth", x.worth(0), 0);
    }

    /** "NONE": as soon as one of them can not be carried. */
    private static void timesForNone() {
        OnlyNamed x = Due.houseOf("H0NaNbNccP1P1K00K01K10K02");
        for (int set = 0; set < 8; set++) {
            int want = set >= 4 ? NONE : set == 0 ? 0 : 1;
            due.is("times(" + set + ")", x.times(set), want);
            due.is("carries(0, " + set + ")", x.carries(0, set) == STATE ? 1 : 0, set >= 4 ? 1 : 0);
        }
    }

    /** "by how much TIMES for all THINGS that somebody LIFTS are more without it". */
    private static void worthOfEach() {
        OnlyNamed x = Due.houseOf("H0NaNbNcNdNeNfP5P1K00K01K02K03K04K05K10K11K12K13K14K15");
        due.is("1 time with both, 2 without the other", x.worth(1), 1);
        due.is("1 time with both, 6 without the one", x.worth(0), 5);
        x = Due.houseOf("H0NaNbNcNdNeNfP6P1K00K01K02K03K04K05K10K11K12K13K14K15");
        due.is("not needed", x.worth(1), 0);
        x = Due.houseOf("H0NaNbNcNdP1P1P1P1K00K01K02K03");
        x.say(0, 0, 15);
        x.say(0, 1, 15);
        x.say(0, 2, 15);
        x.say(0, 3, 15);
        for (int p = 0; p < 4; p++) {
            due.is("one of four: worth(" + p + ")", x.worth(p), 1);
        }
        x = Due.houseOf("H0NaNbNcNdNaaaP1P1P1P1K00K01K02K03K14");
        for (int p = 0; p < 4; p++) {
            due.is("what nobody lifts is not looked at: worth(" + p + ")", x.worth(p), p == 0 ? 99 : 0);
        }
        x = Due.houseOf("H0NaNbP1P1P1K00K11");
        due.is("one who lifts nothing", x.worth(2), 0);
    }

    /** "(99, if it can not be without it)": also where what it alone lifts is one of many. */
    private static void worth99() {
        OnlyNamed x = Due.houseOf("H0NaNbNcNdNeNfNaaNabP9P9P9K00K01K02K03K04K05K06K10K11K12K13K14K15K16K27");
        due.is("worth(0)", x.worth(0), 0);
        due.is("worth(1)", x.worth(1), 0);
        due.is("worth(2)", x.worth(2), 99);
        x.say(2, 7, 1);
        due.is("another one lifts it too", x.worth(2), 0);
        x = Due.houseOf("H0NaNbP1P1K00K11");
        due.is("each is needed: 0", x.worth(0), 99);
        due.is("each is needed: 1", x.worth(1), 99);
        x.days(9);
        x.say(0, 0, 0);
        x.days(1);
        due.is("b is not live: 0", x.worth(0), 99);
        due.is("b is not live: 1", x.worth(1), 0);
    }

    /** "so that each is LIVE at the end of d days more, and on all days till then": by days gone by and days to come. */
    private static void upkeepOfDays() {
        for (int age = 0; age <= 9; age++) {
            OnlyNamed x = Due.houseOf("H0NaP1K00");
            if (age > 0) {
                x.days(age);
            }
            for (int d = 0; d <= 99; d++) {
                int want = 0;
                int liveTill = 9 - age;
                while (liveTill < d) {
                    liveTill += 9;
                    want++;
                }
                due.is("said " + age + " days ago: upkeep(1, " + d + ")", x.upkeep(1, d), want);
            }
        }
        OnlyNamed x = Due.houseOf("H0NaP1K00");
        due.is("d 9: no saying", x.upkeep(1, 9), 0);
        due.is("d 10: one", x.upkeep(1, 10), 1);
        due.is("d 18: one, on day 9", x.upkeep(1, 18), 1);
        due.is("d 19: two", x.upkeep(1, 19), 2);
        due.is("d 99", x.upkeep(1, 99), 10);
        x.days(9);
        due.is("on the last day, d 0", x.upkeep(1, 0), 0);
        due.is("on the last day, d 1: today", x.upkeep(1, 1), 1);
        due.is("on the last day, d 9", x.upkeep(1, 9), 1);
        due.is("on the last day, d 10", x.upkeep(1, 10), 2);
        due.is("on the last day, d 99", x.upkeep(1, 99), 11);
        x.say(0, 0, 0);
        due.is("said, d 9", x.upkeep(1, 9), 0);
        due.is("said, d 99", x.upkeep(1, 99), 10);
    }

    /** "UPKEEP for some THINGS": each by itself; "(those that are LIVE)". */
    private static void upkeepOfSomeThings() {
        OnlyNamed x = Due.houseOf("H3NaNbNcP1P1K00K12");
        x.days(4);
        x.say(0, 0, 0);
        x.days(4);
        x.say(1, 2, 0);
        int[] each = {5, 6, 5};
        int[] of = {x.upkeep(1, 50), x.upkeep(2, 50), x.upkeep(4, 50)};
        due.is("said 4 days ago: upkeep(1, 50)", of[0], each[0]);
        due.is("said 8 days ago: upkeep(2, 50)", of[1], each[1]);
        due.is("said today: upkeep(4, 50)", of[2], each[2]);
        for (int set = 0; set < 8; set++) {
            int want = 0;
            for (int t = 0; t < 3; t++) {
                want += (set >> t & 1) * each[t];
            }
            due.is("upkeep(" + set + ", 50)", x.upkeep(set, 50), want);
        }
        x.days(2);
        due.is("what is not live is set aside", x.upkeep(2, 99), 0);
        due.is("the others are not", x.upkeep(7, 3), 0);
        due.is("the others are not", x.upkeep(7, 4), 1);
    }

    private static void upkeepOfTheMost() {
        OnlyNamed x = Due.houseOf("H3NaNbNcNdNeNfNaaNbb");
        due.is("eight names, 99 days", x.upkeep(255, 99), 80);
        x.days(9);
        due.is("eight names on the last day, 99 days", x.upkeep(255, 99), 88);
        due.is("eight names on the last day, one day", x.upkeep(255, 1), 8);
        x.days(1);
        due.is("none is live", x.upkeep(255, 99), 0);
    }

    /** "MAY HAVE: who LIFTS it": nobody, one, all six. */
    private static void mayHaveWhoLifts() {
        OnlyNamed x = Due.houseOf("H0NbNaaaP1P2P3P4P5P9K00");
        due.is("nobody", x.mayHave(1), 0);
        due.is("one", x.mayHave(0), 1);
        x.say(0, 0, 63);
        due.is("all six", x.mayHave(0), 63);
        OnlyNamed y = Due.houseOf("H0NbNaaaP1P2P3P4P5P9K01");
        y.say(0, 1, 63);
        due.is("who bears three, and more", y.mayHave(1), 4 + 8 + 16 + 32);
        y.give(5, 0, 1);
        due.is("one gave it away", y.mayHave(1), 4 + 8 + 16);
    }
}
