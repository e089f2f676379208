import java.util.ArrayDeque;
import java.util.ArrayList;
import java.util.Deque;
import java.util.HashMap;
import java.util.List;
import java.util.Map;

/** The edges of names: SOUND, OFF, NEAR, FRESH, NAMED ANEW (promises 6 to 8, 15, 16), sentence by sentence. */
public final class EdgesOfNamesTest {
    private static final Due due = new Due("EdgesOfNamesTest");
    private static final int NONE = -9, STATE = -3, UNKNOWN = -1;
    private static final String EIGHT_NEAR_ALL = "NcacNfaafNebbeNccfNbddbNaffaNfccNdeed";

    public static void main(String[] args) {
        soundsFrom0();
        itHasNotSoMany();
        offByTheFewest();
        offFrom0To5();
        offLiveOrNot();
        nearByROrLess();
        nearToItselfNever();
        nearToAllOthers();
        nearWhileBothAreLive();
        freshOfNoneIsTheFirst();
        freshIsOffByMoreThanR();
        freshIsTheShortest();
        freshOfLikeOnesIsTheFirst();
        freshBehindAllOfOneStart();
        freshOfEachLength();
        freshThereIsNone();
        anewOnTheFirstDayOnly();
        anewByEachOther();
        anewAllOfThem();
        anewIsSaidAndKnown();
        anewWeighsAndIsNear();
        due.end();
    }

    /** "SOUND i of a NAME (from 0; 0 to 5)". */
    private static void soundsFrom0() {
        String[] names = {"f", "ef", "def", "cdef", "bcdef", "a", "aaaaa", "fffff"};
        OnlyNamed x = Due.houseOf("H0N" + String.join("N", names));
        for (int t = 0; t < 8; t++) {
            for (int i = 0; i < names[t].length(); i++) {
                due.is("sound(" + t + ", " + i + ")", x.sound(t, i), names[t].charAt(i) - 'a');
            }
        }
    }

    /** "NONE: it has not so many": the first place that is not there, and all beyond; nor is there one ahead of 0. */
    private static void itHasNotSoMany() {
        OnlyNamed x = Due.houseOf("H0NfNefNdefNcdefNbcdef");
        for (int t = 0; t < 5; t++) {
            for (int i : new int[] {t + 1, t + 2, 5, 6, 7, 8, 10, 11, 31, 32, 33, 64, -1, -2, -31, -32, Integer.MIN_VALUE, Integer.MAX_VALUE}) {
                due.is("sound(" + t + ", " + i + ")", x.sound(t, i), NONE);
            }
        }
        for (int i : new int[] {1, 2, 4, 5, 6, 31, 32, 33, 64, -1, -32, Integer.MIN_VALUE, Integer.MAX_VALUE}) {
            due.is("new: fresh(" + i + ")", new OnlyNamed().fresh(i), NONE);
        }
        x = Due.houseOf("H3NabNcdNef");
        for (int i = 0; i < 5; i++) {
            due.is("aaaaa: fresh(" + i + ")", x.fresh(i), 0);
        }
        for (int i : new int[] {5, 6, 10, 32, -1, Integer.MIN_VALUE, Integer.MAX_VALUE}) {
            due.is("aaaaa: fresh(" + i + ")", x.fresh(i), NONE);
        }
    }

    /** "the fewest SOUNDS put in, taken out, or changed": all that can be made of a name, step by step. */
    private static void offByTheFewest() {
        List<String> all = new ArrayList<>();
        words("", all);
        String[] froms = {"a", "c", "ab", "ca", "aab", "abc", "cba", "abca", "bbac", "ccab", "abcab", "aaaaa", "bcabb", "cacac"};
        for (String from : froms) {
            Map<String, Integer> steps = stepsFrom(from);
            for (int first = 0; first < all.size(); first += 7) {
                StringBuilder text = new StringBuilder("H0N").append(from);
                List<String> others = new ArrayList<>();
                for (String word : all.subList(first, Math.min(first + 7, all.size()))) {
                    if (!word.equals(from)) {
                        text.append('N').append(word);
                        others.add(word);
                    }
                }
                OnlyNamed x = Due.houseOf(text.toString());
                for (int i = 0; i < others.size(); i++) {
                    due.is("off of " + from + ", " + others.get(i), x.off(0, i + 1), steps.get(others.get(i)));
                    due.is("off of " + others.get(i) + ", " + from, x.off(i + 1, 0), steps.get(others.get(i)));
                }
            }
        }
    }

    /** All names of a, b, c. */
    private static void words(String start, List<String> all) {
        for (char c = 'a'; c <= 'c' && start.length() < 5; c++) {
            all.add(start + c);
            words(start + c, all);
        }
    }

    private static Map<String, Integer> stepsFrom(String from) {
        Map<String, Integer> steps = new HashMap<>();
        Deque<String> open = new ArrayDeque<>();
        steps.put(from, 0);
        open.add(from);
        while (!open.isEmpty()) {
            String word = open.remove();
            for (String next : oneStep(word)) {
                if (next.length() <= 5 && !steps.containsKey(next)) {
                    steps.put(next, steps.get(word) + 1);
                    open.add(next);
                }
            }
        }
        return steps;
    }

    private static List<String> oneStep(String word) {
        List<String> next = new ArrayList<>();
        for (int i = 0; i <= word.length(); i++) {
            for (char c = 'a'; c <= 'c'; c++) {
                next.add(word.substring(0, i) + c + word.substring(i));
                if (i < word.length()) {
                    next.add(word.substring(0, i) + c + word.substring(i + 1));
                }
            }
            if (i < word.length()) {
                next.add(word.substring(0, i) + word.substring(i + 1));
            }
        }
        return next;
    }

    /** From 0 (a name and itself) to 5 (no sound of five in its place). */
    private static void offFrom0To5() {
        OnlyNamed x = Due.houseOf("H0NaNabNabcNabcdNabcdeNfffffNbNbcdef");
        int[] ofTheFirst = {0, 1, 2, 3, 4, 5, 1, 5};
        int[] ofTheFifth = {4, 3, 2, 1, 0, 5, 4, 2};
        for (int t = 0; t < 8; t++) {
            due.is("off(0, " + t + ")", x.off(0, t), ofTheFirst[t]);
            due.is("off(" + t + ", 0)", x.off(t, 0), ofTheFirst[t]);
            due.is("off(4, " + t + ")", x.off(4, t), ofTheFifth[t]);
            due.is("off(" + t + ", 4)", x.off(t, 4), ofTheFifth[t]);
            due.is("off(" + t + ", " + t + ")", x.off(t, t), 0);
        }
    }

    /** "By how much two NAMES are OFF (LIVE or not)". */
    private static void offLiveOrNot() {
        OnlyNamed x = Due.houseOf("H0NaNbbNcccP1P1K00");
        for (int days : new int[] {9, 1, 99}) {
            x.days(days);
            x.say(0, 0, 0);
            due.is("off(0, 1)", x.off(0, 1), 2);
            due.is("off(1, 0)", x.off(1, 0), 2);
            due.is("off(1, 2)", x.off(1, 2), 3);
            due.is("off(2, 2)", x.off(2, 2), 0);
        }
    }

    /** "if they are OFF by r or less": for each r, names that are off by each. */
    private static void nearByROrLess() {
        String[] others = {"abcdf", "abcff", "abfff", "affff", "fffff"};
        for (int r = 0; r <= 3; r++) {
            for (int off = 1; off <= 5; off++) {
                OnlyNamed x = Due.houseOf("H" + r + "NabcdeN" + others[off - 1] + "P9K00K01");
                due.is("off(0, 1)", x.off(0, 1), off);
                due.is("r " + r + ", off by " + off + ": near(0)", x.near(0), off <= r ? 2 : 0);
                due.is("r " + r + ", off by " + off + ": near(1)", x.near(1), off <= r ? 1 : 0);
                due.is("r " + r + ", off by " + off + ": lifts(0)", x.lifts(0), off <= r ? 0 : 3);
            }
        }
    }

    private static void nearToItselfNever() {
        for (int r = 0; r <= 3; r++) {
            OnlyNamed x = Due.houseOf("H" + r + "NaP1K00");
            due.is("r " + r + ": one alone", x.near(0), 0);
            due.is("r " + r + ": one alone is lifted", x.lifts(0), 1);
        }
    }

    private static void nearToAllOthers() {
        OnlyNamed x = Due.houseOf("H1NabNaNbNacNcbNabcNaabNbb");
        OnlyNamed y = Due.houseOf("H0NabNaNbNacNcbNabcNaabNbb");
        int[] near = {254, 13, 147, 35, 133, 9, 1, 21};
        for (int t = 0; t < 8; t++) {
            due.is("r 1: near(" + t + ")", x.near(t), near[t]);
            due.is("r 0: near(" + t + ")", y.near(t), 0);
        }
        x = Due.houseOf("H3NaNbNcNdNeNfNaaNbb");
        for (int t = 0; t < 8; t++) {
            due.is("r 3: near(" + t + ")", x.near(t), 255 - (1 << t));
        }
    }

    /** "a LIVE NAME to another LIVE one"; "STATE: it is not LIVE". */
    private static void nearWhileBothAreLive() {
        OnlyNamed x = Due.houseOf("H1NaNbNcP1K00K01");
        x.days(3);
        x.say(0, 1, 0);
        x.days(6);
        x.say(0, 0, 0);
        due.is("day 9: near(0)", x.near(0), 6);
        due.is("day 9: near(1)", x.near(1), 5);
        due.is("day 9: near(2)", x.near(2), 3);
        x.days(1);
        due.is("day 10: near(0)", x.near(0), 2);
        due.is("day 10: near(1)", x.near(1), 1);
        due.is("day 10: near(2)", x.near(2), STATE);
        x.days(2);
        due.is("day 12: near(0)", x.near(0), 2);
        x.days(1);
        due.is("day 13: near(0)", x.near(0), 0);
        due.is("day 13: near(1)", x.near(1), STATE);
        x.days(5);
        due.is("day 18: near(0)", x.near(0), 0);
        x.days(1);
        due.is("day 19: near(0)", x.near(0), STATE);
        due.is("day 19: near(3)", x.near(3), UNKNOWN);
    }

    private static void fresh(String house, String want) {
        due.same("fresh of " + house, Due.freshOf(Due.houseOf(house)), want);
    }

    /** Where no name is live, all names are off by more: the first of the shortest is a. */
    private static void freshOfNoneIsTheFirst() {
        for (int r = 0; r <= 3; r++) {
            fresh("H" + r, "a");
            fresh("H" + r + "P1", "a");
            OnlyNamed x = Due.houseOf("H" + r + EIGHT_NEAR_ALL);
            x.days(10);
            due.same("r " + r + ": none is live any more", Due.freshOf(x), "a");
        }
    }

    /** "OFF by more than r from all LIVE ones": one that is off by just r is not. */
    private static void freshIsOffByMoreThanR() {
        fresh("H0Nb", "a");
        fresh("H0Na", "b");
        fresh("H1Nb", "aa");
        fresh("H1Nbb", "a");
        fresh("H1Nab", "c");
        fresh("H2Nbb", "aaa");
        fresh("H2Nbbb", "a");
        fresh("H2Nabb", "c");
        fresh("H3Nbbb", "aaaa");
        fresh("H3Nbbbb", "a");
        fresh("H3Nabbb", "c");
        fresh("H3Naaa", "bbbb");
    }

    /** "the shortest": though a longer one would come ahead by its sounds. */
    private static void freshIsTheShortest() {
        fresh("H0NaNbNcNdNe", "f");
        fresh("H0NaNbNcNdNeNf", "aa");
        fresh("H1NaNb", "cc");
        fresh("H2NaNbNcNdNe", "fff");
        fresh("H3Naaaa", "b");
        fresh("H3Naaaaa", "a");
    }

    /** "of like ones the first (a ahead of b, from the first SOUND on)". */
    private static void freshOfLikeOnesIsTheFirst() {
        fresh("H0NaNbNcNdNeNfNaaNba", "ab");
        fresh("H0NaNbNcNdNeNfNaaNab", "ac");
        fresh("H0NbNcNdNeNfNaaNba", "a");
        fresh("H1NaNbNcNdNeNf", "aaa");
        fresh("H1Na", "bb");
        fresh("H1NbaNcaNdaNeaNfaNaa", "abb");
    }

    /** Where all that begins with a is too near, not by one name but by some together, b comes, and so on. */
    private static void freshBehindAllOfOneStart() {
        // Of two sounds aa, ba are near to ea; ab, ae to abe; ac, ad to acd; af to f.
        fresh("H1NabeNacdNfNea", "bb");
        fresh("H1NfNabaNdNbeNbc", "ca");
        fresh("H1NfNeNbbNaacNaedNdad", "ca");
        fresh("H2NeefNdfcNebdNafebNcbefNaabNabff", "bca");
        fresh("H3NcebdNaafbNecbe", "dda");
        fresh("H3NdacdNfabeNceaeNfaeeNedcf", "affa");
    }

    private static void freshOfEachLength() {
        fresh("H3Nabcde", "a");
        fresh("H1Nc", "aa");
        fresh("H2Nd", "aaa");
        fresh("H3Ne", "aaaa");
        fresh("H3NabNcdNef", "aaaaa");
        fresh("H3NbfbNeffeNfeefNaccaNdaadNebbeNcddc", "aaebc");
        fresh("H3NcacNfaafNebbeNccfNbddbNaffaNfcc", "deed");
    }

    /** "NONE: it has not so many, or there is none"; and there is one as soon as one of eight is not live. */
    private static void freshThereIsNone() {
        OnlyNamed x = Due.houseOf("H3" + EIGHT_NEAR_ALL + "P9K00K01K02K03K04K05K06");
        for (int i = -1; i <= 5; i++) {
            due.is("none: fresh(" + i + ")", x.fresh(i), NONE);
        }
        x.days(9);
        due.is("none on the last day: fresh(0)", x.fresh(0), NONE);
        for (int t = 0; t < 7; t++) {
            x.say(0, t, 0);
        }
        due.is("live: anew(0, 7)", x.anew(0, 7), STATE);
        x.days(1);
        due.same("one of them is not live", Due.freshOf(x), "deed");
        due.is("anew(0, 7)", x.anew(0, 7), 4);
        due.same("it has its old name", Due.nameOf(x, 7), "deed");
        for (int i = -1; i <= 5; i++) {
            due.is("none again: fresh(" + i + ")", x.fresh(i), NONE);
        }
        for (int r = 0; r <= 2; r++) {
            due.is("r " + r + ": there is one", Due.houseOf("H" + r + EIGHT_NEAR_ALL).fresh(0) >= 0 ? 1 : 0, 1);
        }
    }

    /** "A THING whose NAME is not LIVE can be NAMED ANEW": not on day 9, but on day 10. */
    private static void anewOnTheFirstDayOnly() {
        for (int days = 1; days <= 12; days++) {
            OnlyNamed x = Due.houseOf("H1NabP1");
            x.days(days);
            due.is("day " + days + ": anew(0, 0)", x.anew(0, 0), days < 10 ? STATE : 1);
            due.same("day " + days + ": the name", Due.nameOf(x, 0), days < 10 ? "ab" : "a");
            due.is("day " + days + ": anew once more", x.anew(0, 0), STATE);
        }
    }

    /** "can be NAMED ANEW by somebody": also by one that never knew it. */
    private static void anewByEachOther() {
        for (int p = 0; p < 6; p++) {
            OnlyNamed x = Due.houseOf("H0NabNcdP1P1P1P1P1P1K00K10K20K01");
            x.days(10);
            due.is("anew(" + p + ", 0)", x.anew(p, 0), 1);
            due.is("that person knows it, nobody else", x.knows(0), 1 << p);
            due.is("of the other one nobody knows", x.knows(1), 0);
            due.is("it can say it", x.say(p, 0, 63), 63);
            due.is("nobody else could", x.say((p + 1) % 6, 1, 0), STATE);
        }
    }

    /** Each new name keeps the next ones off. */
    private static void anewAllOfThem() {
        String[][] names = {
            {"a", "b", "c", "d", "e", "f", "aa", "ab"}, {"a", "bb", "cc", "dd", "ee", "ff"},
            {"a", "bbb"}, {"a", "bbbb"}};
        for (int r = 0; r <= 3; r++) {
            OnlyNamed x = Due.houseOf("H" + r + "NaNbbNcccNddddNeeeeeNfaNfbNfcP9P9");
            List<String> live = new ArrayList<>();
            x.days(99);
            for (int t = 0; t < 8; t++) {
                String want = slowFresh(live, r);
                if (want.isEmpty()) {
                    due.is("r " + r + ": there is no fresh one for " + t, x.anew(1, t), STATE);
                    continue;
                }
                due.same("r " + r + ": fresh", Due.freshOf(x), want);
                due.is("r " + r + ": anew(1, " + t + ")", x.anew(1, t), want.length());
                due.same("r " + r + ": the name of " + t, Due.nameOf(x, t), want);
                live.add(want);
                if (t < names[r].length) {
                    due.same("r " + r + ": told by hand, " + t, want, names[r][t]);
                }
            }
        }
    }

    /** The first of all names, the shortest ahead, that is off by more than r from the live ones. */
    private static String slowFresh(List<String> live, int r) {
        List<String> names = List.of("");
        for (int length = 1; length <= 5; length++) {
            List<String> longer = new ArrayList<>();
            for (String name : names) {
                for (char c = 'a'; c <= 'f'; c++) {
                    longer.add(name + c);
                }
            }
            for (String name : longer) {
                if (live.stream().allMatch(other -> PlainModel.apart(name, other) > r)) {
                    return name;
                }
            }
            names = longer;
        }
        return "";
    }

    /** "its NAME is FRESH, SAID on THE DAY, that PERSON KNOWS it, nobody else". */
    private static void anewIsSaidAndKnown() {
        OnlyNamed x = Due.houseOf("H0NfNeP2P2K00K01K10");
        x.days(99);
        due.is("anew(1, 0)", x.anew(1, 0), 1);
        due.is("said on the day", x.fades(0), 10);
        due.is("it is live, the other not", x.live(), 1);
        due.is("who knows it", x.knows(0), 2);
        x.days(9);
        due.is("live for nine days", x.live(), 1);
        due.is("known for nine days", x.knows(0), 2);
        due.is("and no more", x.days(1), 1);
        due.is("nobody knows it then", x.knows(0), 0);
        due.is("anew(0, 0)", x.anew(0, 0), 1);
        due.same("the same name again", Due.nameOf(x, 0), "a");
        due.is("who knows it", x.knows(0), 1);
    }

    /** The new name is what is weighed, what is near, what is counted. */
    private static void anewWeighsAndIsNear() {
        OnlyNamed x = Due.houseOf("H3NffNffaP4P3P1K00");
        x.days(9);
        x.say(0, 0, 0);
        x.days(1);
        due.is("anew(1, 1): one of four", x.anew(1, 1), 4);
        due.is("off(0, 1)", x.off(0, 1), 4);
        due.is("near(0)", x.near(0), 0);
        due.is("too heavy for who named it", x.lifts(1), 0);
        due.is("knows(1)", x.knows(1), 2);
        due.is("sounds of all", x.count(7), 6);
        due.is("give(1, 0, 1)", x.give(1, 0, 1), 1);
        due.is("not for the other one", x.lifts(0), 3);
        due.is("both are too much", x.stands(0, 3), 1);
    }
}
