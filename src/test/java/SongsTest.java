/** Promises 24 to 29: songs, tongues. */
public final class SongsTest {
    private static final Due due = new Due("SongsTest");
    private static final int[] NOT_1_TO_8 = {0, 9, -1, Integer.MIN_VALUE, Integer.MAX_VALUE};

    public static void main(String[] args) {
        line();
        silence();
        ways();
        mayBe();
        breaks();
        twins();
        due.end();
    }

    // Promise 24
    private static void line() {
        OnlyNamed x = new OnlyNamed();
        due.is("line(0, 1)", x.line(0, 1), 1);
        due.is("line(7, 255)", x.line(7, 255), 2);
        due.is("the same once more", x.line(7, 255), 3);
        for (int odd : new int[] {8, -1, Integer.MIN_VALUE, Integer.MAX_VALUE}) {
            due.is("line(" + odd + ", 1)", x.line(odd, 1), OnlyNamed.OUTSIDE);
        }
        for (int odd : new int[] {0, 256, -1, Integer.MIN_VALUE, Integer.MAX_VALUE}) {
            due.is("line(0, " + odd + ")", x.line(0, odd), OnlyNamed.OUTSIDE);
        }
        due.is("nothing came of these", x.count(5), 3);
        for (int lines = 4; lines <= 16; lines++) {
            due.is("line " + lines, x.line(1, 254), lines);
        }
        due.is("line 17", x.line(1, 1), OnlyNamed.FULL);
        due.is("line 17, OUTSIDE comes first", x.line(8, 1), OnlyNamed.OUTSIDE);
        due.is("line 17, OUTSIDE comes first", x.line(1, 0), OnlyNamed.OUTSIDE);
        due.is("16 lines stay", x.count(5), 16);
        due.is("the 17th is not heard", x.mayBe(8, 1), 254);
    }

    // Promise 25
    private static void silence() {
        OnlyNamed x = new OnlyNamed();
        due.is("silence of none", x.silence(), 0);
        x.line(0, 2);
        x.line(0, 1);
        due.is("no way", x.ways(3), 0);
        due.is("silence", x.silence(), 2);
        due.is("no lines", x.count(5), 0);
        due.is("all ways", x.ways(3), 6);
        due.is("silence again", x.silence(), 0);
        due.is("a new first line", x.line(2, 1), 1);
        due.is("only that one is heard", x.ways(3), 2);
    }

    // Promise 26
    private static void ways() {
        OnlyNamed x = new OnlyNamed();
        int all = 1;
        for (int n = 1; n <= 8; n++) {
            all *= n;
            due.is("all ways of " + n, x.ways(n), all);
        }
        for (int odd : NOT_1_TO_8) {
            due.is("ways(" + odd + ")", x.ways(odd), OnlyNamed.OUTSIDE);
        }
        x.line(0, 6);
        due.is("ways(1): of things that there are not", x.ways(1), 0);
        due.is("ways(2)", x.ways(2), 1);
        due.is("ways(3)", x.ways(3), 4);
        due.is("ways(4)", x.ways(4), 12);
        x.line(3, 1);
        due.is("ways(3): a name that there is not", x.ways(3), 4);
        due.is("ways(4): it is", x.ways(4), 4);
        x.line(0, 3);
        due.is("lines of one name come together", x.ways(4), 2);
        x.line(1, 2);
        due.is("two names of one thing", x.ways(4), 0);
        x.silence();
        // No name is of the thing of its own number.
        for (int name = 0; name < 8; name++) {
            x.line(name, 255 - (1 << name));
        }
        int[] none = {0, 0, 1, 2, 9, 44, 265, 1854, 14833};
        for (int n = 1; n <= 8; n++) {
            due.is("none is of its own, " + n, x.ways(n), none[n]);
        }
    }

    // Promise 27
    private static void mayBe() {
        OnlyNamed x = new OnlyNamed();
        for (int n = 1; n <= 8; n++) {
            for (int name = 0; name < n; name++) {
                due.is("mayBe(" + n + ", " + name + ") of all", x.mayBe(n, name), (1 << n) - 1);
            }
            due.is("mayBe(" + n + ", " + n + ")", x.mayBe(n, n), OnlyNamed.OUTSIDE);
            due.is("mayBe(" + n + ", -1)", x.mayBe(n, -1), OnlyNamed.OUTSIDE);
        }
        for (int odd : NOT_1_TO_8) {
            due.is("mayBe(" + odd + ", 0)", x.mayBe(odd, 0), OnlyNamed.OUTSIDE);
            due.is("mayBe(8, " + (odd == 0 ? 8 : odd) + ")", x.mayBe(8, odd == 0 ? 8 : odd), OnlyNamed.OUTSIDE);
        }
        x.line(0, 3);
        x.line(1, 3);
        due.is("two have two things, so a third one has others", x.mayBe(4, 2), 12);
        due.is("mayBe(4, 0)", x.mayBe(4, 0), 3);
        due.is("mayBe(4, 1)", x.mayBe(4, 1), 3);
        x.line(2, 7);
        due.is("and a fourth", x.mayBe(4, 3), 8);
        due.is("mayBe(4, 2)", x.mayBe(4, 2), 4);
        x.line(3, 7);
        due.is("no way", x.mayBe(4, 3), 0);
        due.is("no way for any", x.mayBe(4, 0), 0);
        due.is("a name that there is not is set aside", x.mayBe(3, 2), 4);
        due.is("mayBe(2, 1)", x.mayBe(2, 1), 3);
    }

    // Promise 28
    private static void breaks() {
        OnlyNamed x = new OnlyNamed();
        for (int odd : NOT_1_TO_8) {
            due.is("breaks(" + odd + ")", x.breaks(odd), OnlyNamed.OUTSIDE);
        }
        due.is("no lines", x.breaks(8), OnlyNamed.NONE);
        x.line(5, 1);
        x.line(0, 12);
        due.is("breaks(1): the second line", x.breaks(1), 1);
        due.is("breaks(2)", x.breaks(2), 1);
        due.is("breaks(3)", x.breaks(3), OnlyNamed.NONE);
        due.is("breaks(8)", x.breaks(8), OnlyNamed.NONE);
        x.line(5, 3);
        x.line(1, 1);
        due.is("two of one thing", x.breaks(8), 3);
        due.is("one of them set aside", x.breaks(4), OnlyNamed.NONE);
        x.line(6, 128);
        x.line(2, 1);
        due.is("the first, not a later one", x.breaks(8), 3);
        due.is("without the name 5", x.breaks(4), 5);
        x.silence();
        due.is("silence", x.breaks(8), OnlyNamed.NONE);
        x.line(0, 1);
        due.is("breaks by no line", x.breaks(1), OnlyNamed.NONE);
        x.line(0, 2);
        due.is("breaks(1)", x.breaks(1), 1);
        x.silence();
        x.line(0, 2);
        due.is("breaks by the first line", x.breaks(1), 0);
        due.is("not where that thing is", x.breaks(2), OnlyNamed.NONE);
    }

    // Promise 29
    private static void twins() {
        OnlyNamed x = Due.houseOf("H0NaNbNdNabNbcNfaP1K01K02");
        due.is("twins(1): a b, ab bc, fa ab", x.twins(1), 3);
        due.is("twins(2): b d, fa bc", x.twins(2), 2);
        due.is("twins(3): a d, d a", x.twins(3), 2);
        due.is("twins(4): d b, bc fa", x.twins(4), 2);
        due.is("twins(5)", x.twins(5), 3);
        for (int odd : new int[] {0, 6, -1, 7, Integer.MIN_VALUE, Integer.MAX_VALUE}) {
            due.is("twins(" + odd + ")", x.twins(odd), OnlyNamed.OUTSIDE);
        }
        x.days(9);
        x.say(0, 1, 0);
        x.say(0, 2, 0);
        x.days(1);
        due.is("only of live ones: twins(1)", x.twins(1), 0);
        due.is("only of live ones: twins(2)", x.twins(2), 1);
        x = Due.houseOf("H0NabcdeNbcdefNabcdNbcdeN" + "cdefa");
        due.is("of five sounds: twins(1)", x.twins(1), 3);
        due.is("of five sounds: twins(2)", x.twins(2), 1);
    }
}
