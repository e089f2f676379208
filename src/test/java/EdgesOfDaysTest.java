/** The edges of days: LIVE, what fades, SAID, GIVEN (promises 9 to 14), sentence by sentence. */
public final class EdgesOfDaysTest {
    private static final Due due = new Due("EdgesOfDaysTest");
    private static final int NONE = -9, STATE = -3, OUTSIDE = -2;

    public static void main(String[] args) {
        saidOnDay0();
        notMoreThan9DaysAgo();
        nobodyKnowsItAnyMore();
        soManyDaysGoBy();
        whichNamesFaded();
        fadesFrom10To1();
        daysUponDays();
        aLongLife();
        hearersAreBitsOfPeople();
        allWhoHearKnow();
        saidOnTheLastDay();
        givenToThatOneAlone();
        givenOnTheLastDay();
        due.end();
    }

    /** "THE DAY is 0 at first, and when THE HOUSE is made anew; each NAME was SAID on day 0." */
    private static void saidOnDay0() {
        OnlyNamed x = new OnlyNamed();
        due.is("the day at first", x.count(4), 0);
        x.days(42);
        Due.settle(x, "H0NaNbNcNdNeNfNaaNbbP1K07");
        due.is("the day of the new house", x.count(4), 0);
        for (int t = 0; t < 8; t++) {
            due.is("fades(" + t + ")", x.fades(t), 10);
        }
        x.days(99);
        due.is("the same house anew", x.house(), 81);
        due.is("the day is 0 again", x.count(4), 0);
        due.is("all are live again", x.live(), 255);
        due.is("known as told", x.knows(7), 1);
        due.is("for ten days", x.fades(7), 10);
    }

    /** "A NAME is LIVE, if it was SAID not more than 9 days ago": by all that ask for it, on the ninth and the tenth day. */
    private static void notMoreThan9DaysAgo() {
        for (int said : new int[] {0, 1, 8, 9}) {
            OnlyNamed x = saidOn(said);
            x.days(9);
            liveStill(x, "said on day " + said + ", day " + x.count(4) + ": ");
            due.is("said again by who knows it", x.say(0, 0, 0), 3);
            x = saidOn(said);
            x.days(9);
            due.is("given by who knows it", x.give(1, 0, 0), 1);
            x = saidOn(said);
            x.days(9);
            due.is("not to be named anew", x.anew(0, 0), STATE);
            x.days(1);
            notLiveAnyMore(x, "said on day " + said + ", day " + x.count(4) + ": ");
            due.is("not to be said", x.say(0, 0, 0), STATE);
            due.is("not to be given", x.give(1, 0, 0), STATE);
            due.is("to be named anew", x.anew(0, 0), 1);
        }
    }

    /** On this day the things a, which both know, and bcd, which 0 knows, were said. */
    private static OnlyNamed saidOn(int day) {
        OnlyNamed x = Due.houseOf("H1NaNbcdP9P9K00K10K01");
        if (day > 0) {
            x.days(day);
        }
        x.say(0, 0, 0);
        x.say(0, 1, 0);
        return x;
    }

    private static void liveStill(OnlyNamed x, String when) {
        due.is(when + "live", x.live(), 3);
        due.is(when + "count(6)", x.count(6), 2);
        due.is(when + "knows(0)", x.knows(0), 3);
        due.is(when + "fades(0)", x.fades(0), 1);
        due.is(when + "near(0)", x.near(0), 0);
        due.is(when + "lifts(0)", x.lifts(0), 3);
        due.is(when + "lifts(1)", x.lifts(1), 1);
        due.is(when + "mayHave(0)", x.mayHave(0), 3);
        due.is(when + "stands(1, 1)", x.stands(1, 1), NONE);
        due.is(when + "carries(1, 3)", x.carries(1, 3), 1);
        due.is(when + "times(3)", x.times(3), 1);
        due.is(when + "worth(0)", x.worth(0), 99);
        due.is(when + "upkeep(1, 0)", x.upkeep(1, 0), 0);
        due.is(when + "upkeep(1, 1)", x.upkeep(1, 1), 1);
        due.same(when + "fresh", Due.freshOf(x), "bb");
    }

    private static void notLiveAnyMore(OnlyNamed x, String when) {
        due.is(when + "live", x.live(), 0);
        due.is(when + "count(6)", x.count(6), 0);
        due.is(when + "knows(0)", x.knows(0), 0);
        due.is(when + "fades(0)", x.fades(0), STATE);
        due.is(when + "near(0)", x.near(0), STATE);
        due.is(when + "lifts(0)", x.lifts(0), 0);
        due.is(when + "lifts(1)", x.lifts(1), 0);
        due.is(when + "mayHave(0)", x.mayHave(0), 0);
        due.is(when + "stands(1, 1)", x.stands(1, 1), 0);
        due.is(when + "carries(1, 1)", x.carries(1, 1), STATE);
        due.is(when + "times(1)", x.times(1), NONE);
        due.is(when + "worth(0)", x.worth(0), 0);
        due.is(when + "upkeep(1, 99)", x.upkeep(1, 99), 0);
        due.same(when + "fresh", Due.freshOf(x), "a");
    }

    /** "when it is not, nobody KNOWS it any more": nor later, when another name is said. */
    private static void nobodyKnowsItAnyMore() {
        OnlyNamed x = Due.houseOf("H0NaNbP1P1P1P1P1P1K00K10K20K30K40K50K01");
        x.days(9);
        due.is("all know it", x.knows(0), 63);
        x.say(0, 1, 63);
        x.days(1);
        due.is("nobody knows it", x.knows(0), 0);
        due.is("all know the other one", x.knows(1), 63);
        for (int p = 0; p < 6; p++) {
            due.is("say(" + p + ", 0, 63)", x.say(p, 0, 63), STATE);
            due.is("give(" + p + ", 0, 0)", x.give(p, p == 0 ? 1 : 0, 0), STATE);
        }
        due.is("nobody knows it still", x.knows(0), 0);
        due.is("it is not live still", x.live(), 2);
        due.is("named anew", x.anew(3, 0), 1);
        due.is("those who knew it do not", x.knows(0), 8);
    }

    /** "So many days (1 to 99) go by". */
    private static void soManyDaysGoBy() {
        OnlyNamed x = new OnlyNamed();
        int day = 0;
        for (int n = 1; n <= 99; n++) {
            x.days(n);
            day += n;
            due.is("days up to " + n, x.count(4), day);
        }
        for (int odd : new int[] {0, 100, -1, -99, Integer.MIN_VALUE, Integer.MAX_VALUE}) {
            due.is("days(" + odd + ")", x.days(odd), OUTSIDE);
            due.is("no day goes by", x.count(4), day);
        }
    }

    /** "which NAMES faded, as bits": those that were live, and are not: for each age and each number of days. */
    private static void whichNamesFaded() {
        for (int age = 0; age <= 9; age++) {
            for (int n = 1; n <= 99; n++) {
                OnlyNamed x = Due.houseOf("H0NaNbP1K00");
                if (age > 0) {
                    x.days(age);
                }
                x.say(0, 0, 0);
                int faded = (n > 9 ? 1 : 0) + (age + n > 9 ? 2 : 0);
                due.is("ages 0, " + age + ": days(" + n + ")", x.days(n), faded);
                due.is("ages 0, " + age + ", days(" + n + "): live", x.live(), 3 - faded);
                due.is("ages 0, " + age + ", days(" + n + "): knows", x.knows(0), n > 9 ? 0 : 1);
            }
        }
        OnlyNamed x = Due.houseOf("H0NaNbNcNdNeNfNaaNbb");
        due.is("none on day 9", x.days(9), 0);
        due.is("all on day 10", x.days(1), 255);
        due.is("none twice", x.days(1), 0);
        due.is("nor by 99 days", x.days(99), 0);
        due.is("nothing is named: none fades", new OnlyNamed().days(99), 0);
    }

    /** "In how many days a NAME is not LIVE, if it is not SAID": 10 on the day itself, 1 on the last one. */
    private static void fadesFrom10To1() {
        OnlyNamed x = Due.houseOf("H0NaNbP1K01");
        for (int day = 0; day <= 9; day++) {
            due.is("fades(0) on day " + day, x.fades(0), 10 - day);
            x.say(0, 1, 0);
            due.is("fades(1), said on day " + day, x.fades(1), 10);
            x.days(1);
        }
        due.is("fades(0) on day 10", x.fades(0), STATE);
        due.is("fades(1) on day 10", x.fades(1), 9);
        x.days(9);
        due.is("fades(1) on day 19", x.fades(1), STATE);
        for (int days = 1; days <= 9; days++) {
            OnlyNamed y = Due.houseOf("H0Na");
            y.days(days);
            int left = y.fades(0);
            due.is("one day less: none fades", left > 1 ? y.days(left - 1) : 0, 0);
            due.is("and then", y.days(1), 1);
        }
    }

    /** Days upon days, as many as an object's calls let go by: names are live for just as long as at first. */
    private static void daysUponDays() {
        OnlyNamed x = Due.houseOf("H0NabcP9P9");
        for (int call = 1; call <= 480; call++) {
            x.days(99);
        }
        due.is("the day", x.count(4), 47520);
        due.is("keep", x.keep(0), 47520);
        due.is("anew", x.anew(0, 0), 1);
        due.is("fades", x.fades(0), 10);
        due.is("upkeep", x.upkeep(1, 99), 10);
        due.is("keep with a live one", x.keep(1), 47520);
        x.days(9);
        due.is("live on the ninth day", x.live(), 1);
        due.is("days", x.days(1), 1);
        due.is("again(1)", x.again(1), 47520);
        due.is("live again", x.fades(0), 10);
        due.is("again(0)", x.again(0), 47520);
        due.is("not live then", x.live(), 0);
        due.same("its old name", Due.nameOf(x, 0), "abc");
    }

    /** A name that is said every nine days lives on, one that is said every ten does not. */
    private static void aLongLife() {
        OnlyNamed x = Due.houseOf("H0NaP1K00");
        for (int time = 1; time <= 150; time++) {
            due.is("nine days", x.days(9), 0);
            due.is("said on the ninth", x.say(0, 0, 0), 1);
        }
        due.is("the day", x.count(4), 1350);
        due.is("ten days", x.days(10), 1);
        due.is("not said on the tenth", x.say(0, 0, 0), STATE);
    }

    /** "OUTSIDE: hearers (bits of PEOPLE)": from none to all of them, for each number of people. */
    private static void hearersAreBitsOfPeople() {
        String text = "H0Na";
        for (int people = 1; people <= 6; people++) {
            text += "P1";
            OnlyNamed x = Due.houseOf(text + "K00");
            int all = (1 << people) - 1;
            due.is(people + " people: none hears", x.say(0, 0, 0), 1);
            due.is(people + " people: the first not allowed", x.say(0, 0, all + 1), OUTSIDE);
            due.is(people + " people: one too many among others", x.say(0, 0, 2 * all + 1), OUTSIDE);
            due.is(people + " people: -1", x.say(0, 0, -1), OUTSIDE);
            due.is(people + " people: nobody heard", x.knows(0), 1);
            due.is(people + " people: the last one hears", x.say(0, 0, 1 << people - 1), 1 | 1 << people - 1);
            due.is(people + " people: all hear", x.say(0, 0, all), all);
        }
    }

    /** "all who hear KNOW it then": those who do not hear, but knew it, know it still. */
    private static void allWhoHearKnow() {
        for (int told = 0; told < 64; told += 2) {
            for (int hearers = 0; hearers < 64; hearers += 3) {
                OnlyNamed x = Due.houseOf("H0NbNaP1P1P1P1P1P1K01K10");
                x.say(0, 1, told);
                due.is("told " + told + ": say(0, 1, " + hearers + ")", x.say(0, 1, hearers), 1 | told | hearers);
                due.is("told " + told + ", " + hearers + ": knows(1)", x.knows(1), 1 | told | hearers);
                due.is("told " + told + ", " + hearers + ": the other name", x.knows(0), 2);
            }
        }
    }

    /** "SAID by one who KNOWS it, it is SAID on THE DAY": also where none hears, or only the one who says it. */
    private static void saidOnTheLastDay() {
        for (int hearers = 0; hearers < 4; hearers++) {
            OnlyNamed x = Due.houseOf("H0NaNbP1P1K00K11");
            x.days(9);
            due.is("say(0, 0, " + hearers + ")", x.say(0, 0, hearers), 1 | hearers);
            due.is("fades(0)", x.fades(0), 10);
            due.is("fades(1)", x.fades(1), 1);
            due.is("the other one fades", x.days(1), 2);
            due.is("this one does on day 19", x.days(8), 0);
            due.is("this one does on day 19", x.days(1), 1);
        }
    }

    /** "GIVEN to another one, it is SAID to that one alone, and the giver KNOWS it no more." */
    private static void givenToThatOneAlone() {
        for (int p = 0; p < 6; p++) {
            for (int o = 0; o < 6; o++) {
                for (int knew = 0; knew < 64; knew += 5) {
                    OnlyNamed x = Due.houseOf("H0NbNaP1P1P1P1P1P1K" + p + "1");
                    x.say(p, 1, knew);
                    int all = knew | 1 << p;
                    int want = o == p ? STATE : (all | 1 << o) - (1 << p);
                    due.is("known to " + all + ": give(" + p + ", " + o + ", 1)", x.give(p, o, 1), want);
                    due.is("known to " + all + ", given: knows(1)", x.knows(1), o == p ? all : want);
                }
            }
        }
        OnlyNamed x = Due.houseOf("H0NaP1P1K00");
        due.is("given", x.give(0, 1, 0), 2);
        due.is("not by who gave it", x.give(0, 1, 0), STATE);
        due.is("nor said by it", x.say(0, 0, 1), STATE);
        due.is("given back", x.give(1, 0, 0), 1);
        due.is("given once more", x.give(0, 1, 0), 2);
    }

    /** Given is said: on the day, whether the other one knew it or not. */
    private static void givenOnTheLastDay() {
        for (String known : new String[] {"K00", "K00K10"}) {
            OnlyNamed x = Due.houseOf("H0NaNbP1P1" + known);
            x.days(9);
            due.is("give(0, 1, 0)", x.give(0, 1, 0), 2);
            due.is("fades(0)", x.fades(0), 10);
            due.is("the other one fades", x.days(1), 2);
            due.is("known to that one alone", x.knows(0), 2);
            due.is("till day 18", x.days(8), 0);
            due.is("not on day 19", x.days(1), 1);
        }
    }
}
