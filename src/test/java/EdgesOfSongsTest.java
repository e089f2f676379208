/** The edges of part 3: LINES, WAYS, TONGUES, SLOTS, and what is counted (promises 24 to 32), sentence by sentence. */
public final class EdgesOfSongsTest {
    private static final Due due = new Due("EdgesOfSongsTest");
    private static final int NONE = -9, STATE = -3, OUTSIDE = -2, FULL = -4, UNKNOWN = -1;
    private static final int MIN = Integer.MIN_VALUE, MAX = Integer.MAX_VALUE;
    private static final int[] FACTORIAL = {1, 1, 2, 6, 24, 120, 720, 5040, 40320};

    public static void main(String[] args) {
        lines16AtMost();
        namesAndThingsOfALine();
        linesStay();
        anOldHouseOf1To8();
        noLines();
        eachOneToOne();
        namesThatThereAreNot();
        thingsThatThereAreNot();
        linesOfOneName();
        mayBeInSomeWay();
        mayBeOfAllNames();
        theFirstLine();
        withThoseAheadOfIt();
        theLastLine();
        behindFComesA();
        tonguesOf1To5();
        twinsInThisOrder();
        twinsOfAllKinds();
        twinsOfLiveOnes();
        slots0To1();
        theSameSlotTwice();
        againAndAgain();
        whatIsKept();
        whatIsNotKept();
        keptIsGone();
        counts();
        the512thCall();
        due.end();
    }

    /** "LINES, 16 at most"; "FULL: 16". */
    private static void lines16AtMost() {
        OnlyNamed x = new OnlyNamed();
        for (int line = 1; line <= 16; line++) {
            due.is("line " + line, x.line(line % 8, 255), line);
            due.is("count(5)", x.count(5), line);
        }
        due.is("the seventeenth", x.line(0, 1), FULL);
        due.is("it is not heard", x.mayBe(8, 0), 255);
        due.is("16 stay", x.count(5), 16);
        due.is("silence", x.silence(), 16);
        due.is("the first again", x.line(0, 1), 1);
        due.is("it is heard", x.mayBe(8, 0), 1);
        OnlyNamed y = new OnlyNamed();
        for (int line = 1; line <= 15; line++) {
            y.line(3, 255);
        }
        due.is("the sixteenth", y.line(3, 16), 16);
        due.is("it is heard: mayBe", y.mayBe(8, 3), 16);
        due.is("it is heard: ways", y.ways(8), 5040);
    }

    /** "OUTSIDE: name (0 to 7), things (1 to 255)". */
    private static void namesAndThingsOfALine() {
        for (int name = 0; name < 8; name++) {
            for (int things : new int[] {1, 128, 255}) {
                OnlyNamed x = new OnlyNamed();
                due.is("line(" + name + ", " + things + ")", x.line(name, things), 1);
                due.is("line(" + name + ", " + things + "): mayBe", x.mayBe(8, name), things);
            }
            for (int odd : new int[] {0, 256, -1, MIN, MAX}) {
                due.is("line(" + name + ", " + odd + ")", new OnlyNamed().line(name, odd), OUTSIDE);
            }
        }
        for (int odd : new int[] {-1, 8, MIN, MAX}) {
            due.is("line(" + odd + ", 1)", new OnlyNamed().line(odd, 1), OUTSIDE);
            due.is("line(" + odd + ", 255)", new OnlyNamed().line(odd, 255), OUTSIDE);
        }
    }

    /** "LINES stay", when THE HOUSE is made anew; and no house is asked for. */
    private static void linesStay() {
        OnlyNamed x = new OnlyNamed();
        x.line(0, 1);
        x.line(1, 6);
        int[] ways = {0, 1, 1, 2, 4, 12, 48, 240, 1440};
        for (String house : new String[] {"H0", "H3NaP1K00", "H0NaNbNcNdNeNfNaaNbb", "H0"}) {
            Due.settle(x, house);
            due.is(house + ": count(5)", x.count(5), 2);
            for (int n = 1; n <= 8; n++) {
                due.is(house + ": ways(" + n + ")", x.ways(n), ways[n]);
            }
        }
        due.is("silence", x.silence(), 2);
    }

    /** "(n 1 to 8)". */
    private static void anOldHouseOf1To8() {
        for (int odd : new int[] {0, 9, -1, -8, 16, 33, MIN, MAX}) {
            OnlyNamed x = new OnlyNamed();
            due.is("ways(" + odd + ")", x.ways(odd), OUTSIDE);
            due.is("breaks(" + odd + ")", x.breaks(odd), OUTSIDE);
            due.is("mayBe(" + odd + ", 0)", x.mayBe(odd, 0), OUTSIDE);
        }
        for (int n = 1; n <= 8; n++) {
            OnlyNamed x = new OnlyNamed();
            due.is("mayBe(" + n + ", the last)", x.mayBe(n, n - 1), (1 << n) - 1);
            due.is("mayBe(" + n + ", one more)", x.mayBe(n, n), OUTSIDE);
            due.is("mayBe(" + n + ", -1)", x.mayBe(n, -1), OUTSIDE);
            due.is("mayBe(" + n + ", MIN)", x.mayBe(n, MIN), OUTSIDE);
            due.is("mayBe(" + n + ", MAX)", x.mayBe(n, MAX), OUTSIDE);
        }
    }

    private static void noLines() {
        OnlyNamed x = new OnlyNamed();
        for (int n = 1; n <= 8; n++) {
            due.is("ways(" + n + ")", x.ways(n), FACTORIAL[n]);
            due.is("breaks(" + n + ")", x.breaks(n), NONE);
            for (int name = 0; name < n; name++) {
                due.is("mayBe(" + n + ", " + name + ")", x.mayBe(n, name), (1 << n) - 1);
            }
        }
        due.is("silence", x.silence(), 0);
    }

    /** "all NAMES can be given to THINGS, each one to one": as many ways as there are, from all to one to none. */
    private static void eachOneToOne() {
        OnlyNamed x = new OnlyNamed();
        for (int name = 0; name < 8; name++) {
            x.line(name, 1 << 7 - name);
            due.is("the first " + (name + 1) + " are told", x.ways(8), FACTORIAL[7 - name]);
        }
        for (int name = 0; name < 8; name++) {
            due.is("mayBe(8, " + name + ")", x.mayBe(8, name), 1 << 7 - name);
        }
        due.is("in one way", x.breaks(8), NONE);
        x.silence();
        for (int name = 0; name < 8; name++) {
            x.line(name, 3 << name & 255 | (name == 7 ? 1 : 0));
        }
        due.is("each its own or the next one's", x.ways(8), 2);
        x.silence();
        for (int name = 0; name < 3; name++) {
            x.line(name, 3);
            due.is("two things for " + (name + 1) + " names", x.ways(8), new int[] {2 * 5040, 2 * 720, 0}[name]);
        }
    }

    /** "(LINES of NAMES that there are not, set aside)": the name n is not there, n less 1 is. */
    private static void namesThatThereAreNot() {
        for (int n = 1; n <= 8; n++) {
            OnlyNamed x = new OnlyNamed();
            x.line(n - 1, 1);
            due.is("a line of the last of " + n + ": ways", x.ways(n), FACTORIAL[n - 1]);
            due.is("a line of the last of " + n + ": mayBe", x.mayBe(n, n - 1), 1);
            if (n < 8) {
                OnlyNamed y = new OnlyNamed();
                y.line(n, 1);
                y.line(n, 2);
                due.is("two lines of the name " + n + ": ways", y.ways(n), FACTORIAL[n]);
                due.is("two lines of the name " + n + ": mayBe", y.mayBe(n, 0), (1 << n) - 1);
                due.is("two lines of the name " + n + ": breaks", y.breaks(n), NONE);
                due.is("where it is: ways", y.ways(n + 1), 0);
                due.is("where it is: breaks", y.breaks(n + 1), 1);
            }
        }
    }

    /** Things from n on are not there: a line of such alone leaves no way. */
    private static void thingsThatThereAreNot() {
        for (int n = 1; n <= 7; n++) {
            OnlyNamed x = new OnlyNamed();
            x.line(0, 1 << n);
            due.is("a line of the thing " + n + " alone: ways", x.ways(n), 0);
            due.is("a line of the thing " + n + " alone: breaks", x.breaks(n), 0);
            due.is("a line of the thing " + n + " alone: mayBe", x.mayBe(n, 0), 0);
            due.is("where it is", x.ways(n + 1), FACTORIAL[n]);
            OnlyNamed y = new OnlyNamed();
            y.line(0, 1 << n | 1);
            due.is("a line of the things " + n + " and 0: ways", y.ways(n), FACTORIAL[n - 1]);
            due.is("a line of the things " + n + " and 0: mayBe", y.mayBe(n, 0), 1);
            due.is("a line of the things " + n + " and 0, where it is: mayBe", y.mayBe(n + 1, 0), 1 << n | 1);
        }
    }

    /** "all LINES are kept": of one name what is in each of them. */
    private static void linesOfOneName() {
        OnlyNamed x = new OnlyNamed();
        int[] things = {255, 127, 126, 102, 100, 96, 64, 128};
        int[] may = {255, 127, 126, 102, 100, 96, 64, 0};
        for (int line = 0; line < 8; line++) {
            x.line(4, things[line]);
            due.is("line " + line + ": mayBe", x.mayBe(8, 4), may[line]);
            due.is("line " + line + ": ways", x.ways(8), 5040 * Integer.bitCount(may[line]));
        }
        due.is("breaks", x.breaks(8), 7);
    }

    /** "of a NAME the THINGS that it is of in some way": not those that only its own lines leave. */
    private static void mayBeInSomeWay() {
        OnlyNamed x = new OnlyNamed();
        x.line(0, 1);
        for (int n = 1; n <= 8; n++) {
            for (int name = 0; name < n; name++) {
                due.is("mayBe(" + n + ", " + name + ")", x.mayBe(n, name), name == 0 ? 1 : (1 << n) - 2);
            }
        }
        x.line(2, 6);
        x.line(3, 6);
        int[] may = {1, 8, 6, 6};
        for (int name = 0; name < 4; name++) {
            due.is("mayBe(4, " + name + ")", x.mayBe(4, name), may[name]);
        }
        due.is("mayBe(5, 1): the last two are left", x.mayBe(5, 1), 24);
        due.is("mayBe(5, 4)", x.mayBe(5, 4), 24);
        due.is("mayBe(3, 2), name 3 set aside", x.mayBe(3, 2), 6);
        due.is("mayBe(3, 1)", x.mayBe(3, 1), 6);
    }

    /** Where there is no way no name is of anything; where there is one each is of one. */
    private static void mayBeOfAllNames() {
        OnlyNamed x = new OnlyNamed();
        x.line(6, 8);
        x.line(7, 8);
        for (int name = 0; name < 8; name++) {
            due.is("no way: mayBe(8, " + name + ")", x.mayBe(8, name), 0);
        }
        for (int name = 0; name < 7; name++) {
            due.is("without the name 7: mayBe(7, " + name + ")", x.mayBe(7, name), name == 6 ? 8 : 119);
        }
    }

    /** "The first LINE by which there is no way (from 0); NONE." */
    private static void theFirstLine() {
        for (int place = 0; place < 16; place++) {
            OnlyNamed x = new OnlyNamed();
            for (int line = 0; line < 16; line++) {
                x.line(0, line == place ? 2 : line > place && line % 2 == 0 ? 4 : 1);
            }
            due.is("of one, line " + place + " breaks", x.breaks(1), place);
            due.is("of two, the other kind of line", x.breaks(2), place == 0 ? 1 : place);
        }
    }

    /** "(with those ahead of it)": it breaks with lines of other names as well; later ones are no matter. */
    private static void withThoseAheadOfIt() {
        OnlyNamed x = new OnlyNamed();
        x.line(0, 7);
        x.line(1, 7);
        x.line(2, 7);
        x.line(7, 128);
        due.is("three things for three", x.breaks(8), NONE);
        x.line(3, 7);
        due.is("three things for four", x.breaks(8), 4);
        x.line(4, 1);
        x.line(4, 2);
        due.is("the first, not a later one", x.breaks(8), 4);
        due.is("the name 3 is not there", x.breaks(3), NONE);
        x.silence();
        x.line(3, 7);
        x.line(2, 7);
        x.line(1, 7);
        x.line(0, 7);
        due.is("the last of them, by what comes first", x.breaks(4), 3);
        due.is("only the lines of those that there are", x.breaks(3), NONE);
        x.silence();
        x.line(5, 4);
        x.line(5, 8);
        x.line(0, 4);
        x.line(0, 8);
        due.is("lines that are set aside have their places", x.breaks(4), 3);
        due.is("they break where they are not set aside", x.breaks(6), 1);
    }

    private static void theLastLine() {
        OnlyNamed x = new OnlyNamed();
        for (int line = 0; line < 15; line++) {
            x.line(line % 7, 255);
        }
        due.is("fifteen", x.breaks(8), NONE);
        x.line(0, 128);
        due.is("the sixteenth, of a thing that 8 have", x.breaks(8), NONE);
        due.is("the sixteenth, of a thing that 7 have not", x.breaks(7), 15);
        due.is("the seventeenth does not come", x.line(0, 1), FULL);
        due.is("nor break", x.breaks(8), NONE);
    }

    /** "each SOUND is k further (behind f comes a)". */
    private static void behindFComesA() {
        for (int sound = 0; sound < 6; sound++) {
            for (int k = 1; k <= 5; k++) {
                char here = (char) ('a' + sound);
                for (int other = 0; other < 6; other++) {
                    if (other != sound) {
                        OnlyNamed x = Due.houseOf("H0N" + here + "N" + (char) ('a' + other));
                        int want = ((sound + k) % 6 == other ? 1 : 0) + ((other + k) % 6 == sound ? 1 : 0);
                        due.is(here + ", " + other + ": twins(" + k + ")", x.twins(k), want);
                    }
                }
            }
        }
        OnlyNamed x = Due.houseOf("H0NfedcbNafedcNedcbaNabcdeNbcdef");
        // By 1 fedcb is afedc, edcba is fedcb, abcde is bcdef; by 2 edcba is afedc; 4 and 5 are the ways back.
        int[] want = {0, 3, 1, 0, 1, 3};
        for (int k = 1; k <= 5; k++) {
            due.is("names of five: twins(" + k + ")", x.twins(k), want[k]);
        }
    }

    /** "by k (1 to 5)". */
    private static void tonguesOf1To5() {
        OnlyNamed x = Due.houseOf("H0NaNbNcNdNeNf");
        for (int k = 1; k <= 5; k++) {
            due.is("all six sounds: twins(" + k + ")", x.twins(k), 6);
        }
        for (int odd : new int[] {0, 6, 7, 12, -1, -5, -6, MIN, MAX}) {
            due.is("twins(" + odd + ")", x.twins(odd), OUTSIDE);
            due.is("new: twins(" + odd + ")", new OnlyNamed().twins(odd), OUTSIDE);
        }
    }

    /** "(unlike ones, in this order)": by 3 each of two is the other's. */
    private static void twinsInThisOrder() {
        OnlyNamed x = Due.houseOf("H0NabNbc");
        int[] want = {0, 1, 0, 0, 0, 1};
        for (int k = 1; k <= 5; k++) {
            due.is("ab, bc: twins(" + k + ")", x.twins(k), want[k]);
        }
        x = Due.houseOf("H0NadNda");
        due.is("ad, da: twins(3), both ways", x.twins(3), 2);
        x = Due.houseOf("H0NabcNdef");
        due.is("abc, def: twins(3), both ways", x.twins(3), 2);
        x = Due.houseOf("H0Na");
        due.is("one alone", x.twins(3), 0);
        x = Due.houseOf("H0NaNaa");
        for (int k = 1; k <= 5; k++) {
            due.is("no pair is of one name: twins(" + k + ")", x.twins(k), 0);
        }
    }

    /** Names sound alike with as many sounds, each in its place. */
    private static void twinsOfAllKinds() {
        due.is("a start is not enough", Due.houseOf("H0NabNbcd").twins(1), 0);
        due.is("an end is not enough", Due.houseOf("H0NabcNcd").twins(1), 0);
        due.is("one sound is not enough", Due.houseOf("H0NabNbb").twins(1), 0);
        due.is("the other way round is not", Due.houseOf("H0NabNcb").twins(1), 0);
        due.is("f to a within a name", Due.houseOf("H0NafcNbad").twins(1), 1);
        due.is("ff to aa", Due.houseOf("H0NffNaa").twins(1), 1);
        due.is("ff to aa is 5 back", Due.houseOf("H0NffNaa").twins(5), 1);
        due.is("eight: a chain of six that comes round, and two", Due.houseOf("H0NaNbNcNdNeNfNaaNbb").twins(1), 7);
        due.is("eight: by 3", Due.houseOf("H0NaNbNcNdNeNfNaaNdd").twins(3), 8);
    }

    /** "of LIVE NAMES": both must be. */
    private static void twinsOfLiveOnes() {
        OnlyNamed x = Due.houseOf("H0NaNbNcP1K01");
        x.days(9);
        due.is("all are live", x.twins(1), 2);
        x.say(0, 1, 0);
        x.days(1);
        due.is("b alone is live", x.twins(1), 0);
        due.is("b alone is live, by 5", x.twins(5), 0);
        due.is("anew", x.anew(0, 0), 1);
        due.is("a again", x.twins(1), 1);
        due.is("and c", x.anew(0, 2), 1);
        due.is("all are live", x.twins(1), 2);
    }

    /** "SLOTS 0 to 1"; "UNKNOWN"; "STATE: none were kept". */
    private static void slots0To1() {
        for (int slot = 0; slot < 2; slot++) {
            OnlyNamed x = Due.houseOf("H0NaP1K00");
            due.is("nothing is kept", x.again(slot), STATE);
            due.is("keep(" + slot + ")", x.keep(slot), 0);
            due.is("the other one is free", x.again(1 - slot), STATE);
            due.is("again(" + slot + ")", x.again(slot), 0);
        }
        for (int odd : new int[] {2, -1, 32, MIN, MAX}) {
            due.is("keep(" + odd + ")", new OnlyNamed().keep(odd), UNKNOWN);
            due.is("again(" + odd + ")", new OnlyNamed().again(odd), UNKNOWN);
        }
    }

    /** The same slot twice: what came last is kept, in that slot alone. */
    private static void theSameSlotTwice() {
        OnlyNamed x = Due.houseOf("H0NaNbP1P1K00K11");
        x.keep(0);
        x.keep(1);
        x.days(3);
        x.say(0, 0, 2);
        due.is("keep(0) once more", x.keep(0), 3);
        x.days(9);
        due.is("again(0)", x.again(0), 3);
        due.is("again(0): fades(0)", x.fades(0), 10);
        due.is("again(0): knows(0)", x.knows(0), 3);
        due.is("again(1)", x.again(1), 0);
        due.is("again(1): fades(0)", x.fades(0), 10);
        due.is("again(1): knows(0)", x.knows(0), 1);
        x.days(1);
        due.is("keep(1) over it", x.keep(1), 1);
        due.is("again(1)", x.again(1), 1);
        due.is("again(0) is as it was", x.again(0), 3);
        due.is("keep(1) of what 0 kept", x.keep(1), 3);
        due.is("again(1)", x.again(1), 3);
        due.is("again(1): knows(0)", x.knows(0), 3);
    }

    /** The same slot again and again: it stays kept, whatever comes behind it. */
    private static void againAndAgain() {
        OnlyNamed x = Due.houseOf("H0NabNbP1P1K00K11");
        x.days(6);
        x.keep(0);
        for (int time = 0; time < 20; time++) {
            x.days(1 + time);
            x.say(0, 0, 3);
            x.give(1, 0, 1);
            x.anew(0, 0);
            due.is("again(0), time " + time, x.again(0), 6);
            due.is("the day", x.count(4), 6);
            due.is("live", x.live(), 3);
            due.is("fades(0)", x.fades(0), 4);
            due.is("knows(0)", x.knows(0), 1);
            due.is("knows(1)", x.knows(1), 2);
            due.same("the name", Due.nameOf(x, 0), "ab");
        }
    }

    /** "keep NAMES, when they were SAID, who KNOWS them, THE DAY". */
    private static void whatIsKept() {
        OnlyNamed x = Due.houseOf("H1NabNcdNefP1P1P1K00K11K22");
        x.days(5);
        x.say(1, 1, 4);
        x.days(4);
        x.say(2, 2, 1);
        x.days(1);
        x.anew(2, 0);
        x.days(2);
        due.is("keep(1)", x.keep(1), 12);
        Asked before = Asked.of(x);
        x.days(99);
        x.anew(0, 2);
        x.anew(0, 1);
        x.keep(0);
        due.is("again(1)", x.again(1), 12);
        Asked.of(x).same(due, "again(1)", before);
        due.same("names", Due.nameOf(x, 0) + Due.nameOf(x, 1) + Due.nameOf(x, 2), "acdef");
        due.is("fades(0)", x.fades(0), 8);
        due.is("fades(1)", x.fades(1), 3);
        due.is("fades(2)", x.fades(2), 7);
        due.is("knows", x.knows(0) * 100 + x.knows(1) * 10 + x.knows(2), 465);
    }

    /** The text and the lines are not kept: they are as they were ahead of again. */
    private static void whatIsNotKept() {
        OnlyNamed x = Due.houseOf("H2NaP1K00");
        x.line(0, 1);
        x.keep(0);
        x.line(1, 2);
        x.line(2, 1);
        x.write(1, 'P');
        due.is("again(0)", x.again(0), 0);
        due.is("lines", x.count(5), 3);
        due.is("breaks", x.breaks(8), 2);
        due.is("bytes", x.count(0), 10);
        due.is("fault", x.fault(), 10);
        x.silence();
        x.wipe();
        due.is("again(0)", x.again(0), 0);
        due.is("no lines", x.count(5), 0);
        due.is("no bytes", x.count(0), 0);
        due.is("r stays", x.count(3), 2);
    }

    /** "(what was kept is gone": by the same house as well, but not by a text with a fault. */
    private static void keptIsGone() {
        OnlyNamed x = Due.houseOf("H0NaP1K00");
        x.keep(0);
        x.keep(1);
        x.write(1, 'X');
        due.is("a fault", x.house(), STATE);
        due.is("again(0)", x.again(0), 0);
        due.is("again(1)", x.again(1), 0);
        x.wipe();
        Due.tell(x, "H0NaP1K00");
        due.is("the same house", x.house(), 11);
        due.is("again(0)", x.again(0), STATE);
        due.is("again(1)", x.again(1), STATE);
        due.is("nothing changed", x.knows(0), 1);
        x.days(4);
        due.is("keep(1)", x.keep(1), 4);
        due.is("again(0) not yet", x.again(0), STATE);
        due.is("again(1)", x.again(1), 4);
    }

    /** "0 bytes of THE TEXT, 1 THINGS, 2 PEOPLE, 3 r, 4 THE DAY, 5 LINES, 6 LIVE NAMES, 7 SOUNDS of all NAMES". */
    private static void counts() {
        OnlyNamed x = Due.houseOf("H3NabNcdefNfP1P2P3P4K00");
        x.line(0, 1);
        x.line(1, 1);
        x.line(2, 1);
        x.line(2, 1);
        x.line(2, 1);
        x.days(9);
        x.say(0, 0, 0);
        int[] onDay9 = {23, 3, 4, 3, 9, 5, 3, 7};
        int[] onDay10 = {23, 3, 4, 3, 10, 5, 1, 7};
        int[] onDay19 = {23, 3, 4, 3, 19, 5, 0, 7};
        for (int what = 0; what < 8; what++) {
            due.is("day 9: count(" + what + ")", x.count(what), onDay9[what]);
        }
        x.days(1);
        for (int what = 0; what < 8; what++) {
            due.is("day 10: count(" + what + ")", x.count(what), onDay10[what]);
        }
        x.days(9);
        for (int what = 0; what < 8; what++) {
            due.is("day 19: count(" + what + ")", x.count(what), onDay19[what]);
        }
        x.anew(0, 1);
        due.is("SOUNDS, not live ones too, one of them anew", x.count(7), 4);
        for (int odd : new int[] {-1, 8, 9, 32, MIN, MAX}) {
            due.is("count(" + odd + ")", x.count(odd), OUTSIDE);
        }
    }

    /** "An object is used for at most 512 calls": the last of them is answered as all others. */
    private static void the512thCall() {
        OnlyNamed x = new OnlyNamed();
        String text = "H1NabNcdNefP9P9K00K01K02K10K11K12";
        Due.tell(x, text);
        x.house();
        x.keep(0);
        int calls = (text.length() + 7) / 8 + 2;
        for (; calls < 511; calls++) {
            switch (calls % 6) {
                case 0: due.is("call " + calls + ": fresh", x.fresh(1), 0); break;
                case 1: due.is("call " + calls + ": worth", x.worth(0), 0); break;
                case 2: due.is("call " + calls + ": breaks", x.breaks(8), NONE); break;
                case 3: due.is("call " + calls + ": days", x.days(99), 7); break;
                case 4: due.is("call " + calls + ": again", x.again(0), 0); break;
                default: due.is("call " + calls + ": carries", x.carries(1, 7), 7);
            }
        }
        due.is("call 512", x.keep(1), 0);
    }
}
