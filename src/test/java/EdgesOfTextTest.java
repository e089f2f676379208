/** The edges of part 1, THE TEXT and the HOUSE that it is (promises 1 to 5), sentence by sentence. */
public final class EdgesOfTextTest {
    private static final Due due = new Due("EdgesOfTextTest");
    private static final int NONE = -9;
    private static final String EIGHT = "NaNbNcNdNeNfNaaNab", SIX = "P1P2P3P4P5P6";
    private static final String SOUNDS = "abcdef";

    public static void main(String[] args) {
        atFirstNothing();
        bytes96AtMost();
        bytes1To8();
        theLowestTheHighestFirst();
        aByteMayBeAny();
        theHead();
        things8AtMost();
        sounds1To5();
        noTwoNamesAlike();
        alikeWhateverOthersWereTold();
        alikeOnlyInPart();
        people6AtMost();
        bears1To9();
        figuresOfSuchAsWereToldAhead();
        noPairTwice();
        nothingIsLeftToKnow();
        onlyNotAtItsEnd();
        itsLengthSetAside();
        numberedAsTheyAreTold();
        theMostThatAHouseCanHave();
        due.end();
    }

    private static void fault(String text, int want) {
        due.is("fault of " + text, Due.faultOf(text), want);
        OnlyNamed x = new OnlyNamed();
        Due.tell(x, text);
        due.is("house of " + text + " is refused", x.house() == OnlyNamed.STATE ? 1 : 0, want == NONE ? 0 : 1);
    }

    /** Of all bytes these can come behind the text, and no others. */
    private static void canCome(String text, String bytes) {
        for (int b = 0; b < 256; b++) {
            int fault = Due.faultOf(text + (char) b);
            boolean can = fault == NONE || fault > text.length();
            due.is("byte " + b + " behind " + text, can ? 1 : 0, bytes.indexOf(b) >= 0 ? 1 : 0);
            due.is("byte " + b + " behind " + text + ": fault", can || fault == text.length() ? 1 : 0, 1);
        }
    }

    /** "At first THE HOUSE is H0", "Nothing, nobody": and it is a house as others are. */
    private static void atFirstNothing() {
        OnlyNamed x = new OnlyNamed();
        Asked.of(x).same(due, "a new object is as H0", Asked.of(houseWithoutText("H0")));
        due.is("no day is kept", x.again(0), OnlyNamed.STATE);
        due.is("the day goes on", x.days(99), 0);
        due.is("nothing can be kept", x.keep(1), 99);
        due.is("two days more", x.days(2), 0);
        due.is("and again", x.again(1), 99);
        due.is("r is 0", x.count(3), 0);
    }

    private static OnlyNamed houseWithoutText(String text) {
        OnlyNamed x = Due.houseOf(text);
        x.wipe();
        return x;
    }

    /** "THE TEXT is bytes (96 at most)", "FULL: it would be longer than 96 (nothing comes)". */
    private static void bytes96AtMost() {
        for (int n = 1; n <= 8; n++) {
            OnlyNamed x = withBytes(96 - n);
            due.is("write(" + n + ") to just 96", x.write(n, 0), 96);
            due.is("write(1) at 96", x.write(1, 0), OnlyNamed.FULL);
            x = withBytes(97 - n);
            due.is("write(" + n + ") to 97", x.write(n, 0), OnlyNamed.FULL);
            due.is("nothing came", x.count(0), 97 - n);
            if (n > 1) {
                due.is("one less fits", x.write(n - 1, 0), 96);
            }
        }
        OnlyNamed x = withBytes(96);
        due.is("wipe of 96", x.wipe(), 96);
        due.is("then 8 more can come", x.write(8, 0), 8);
        x = new OnlyNamed();
        Due.tell(x, "H1NabP4P5K0");
        for (int length = x.count(0); length < 96; length++) {
            x.write(1, 'X');
        }
        x.write(8, 0x3048484848484848L);
        due.is("the first fault stays where it is, as nothing came", x.fault(), 11);
    }

    private static OnlyNamed withBytes(int bytes) {
        OnlyNamed x = new OnlyNamed();
        for (int length = 0; length < bytes; length++) {
            x.write(1, 0);
        }
        return x;
    }

    /** "n bytes (1 to 8) of v". */
    private static void bytes1To8() {
        for (int n = 1; n <= 8; n++) {
            OnlyNamed x = new OnlyNamed();
            due.is("write(" + n + ") tells how long it is", x.write(n, 0), n);
            due.is("write(" + n + ") once more", x.write(n, 0), 2 * n);
            due.is("count(0)", x.count(0), 2 * n);
        }
        for (int odd : new int[] {0, 9, -1, 264, Integer.MIN_VALUE, Integer.MAX_VALUE}) {
            due.is("write(" + odd + ")", new OnlyNamed().write(odd, 0x4830), OnlyNamed.OUTSIDE);
        }
    }

    /** "the lowest n, the highest of these first": by parts of each length, with other bytes above. */
    private static void theLowestTheHighestFirst() {
        String text = "H2NfedcbNaP7P3K00K11K10NabcP9K22";
        for (int n = 1; n <= 8; n++) {
            for (long above : new long[] {0, -1, 0x4848484848484848L}) {
                OnlyNamed x = new OnlyNamed();
                for (int from = 0; from < text.length(); from += n) {
                    int many = Math.min(n, text.length() - from);
                    long v = above;
                    for (int i = 0; i < many; i++) {
                        v = v << 8 | text.charAt(from + i);
                    }
                    x.write(many, v);
                }
                due.is("by parts of " + n + ": fault", x.fault(), NONE);
                due.is("by parts of " + n + ": house", x.house(), 33);
                due.same("by parts of " + n + ": names", Due.nameOf(x, 0) + Due.nameOf(x, 1) + Due.nameOf(x, 2), "fedcbaabc");
                due.is("by parts of " + n + ": knows", x.knows(0) * 100 + x.knows(1) * 10 + x.knows(2), 324);
            }
        }
    }

    /** A byte may be any (0 to 255): one above 127 is as wrong as others, and no two are taken for one. */
    private static void aByteMayBeAny() {
        for (int b = 128; b < 256; b++) {
            OnlyNamed x = new OnlyNamed();
            due.is("write(1, " + b + ")", x.write(1, b), 1);
            due.is("fault of the byte " + b, x.fault(), 0);
            due.is("write(1, " + (b - 256) + ")", x.write(1, b - 256), 2);
            due.is("fault of that twice", x.fault(), 0);
        }
        OnlyNamed x = new OnlyNamed();
        x.write(2, 0x4830);
        x.write(1, 0x100 + 'N');
        x.write(1, -256 + 'a');
        due.is("what is above a byte is not looked at", x.fault(), NONE);
        x.write(1, 'P' + 128);
        due.is("a P with its highest bit", x.fault(), 4);
    }

    /** "H and a figure r (0 to 3), then PARTS, none or more". */
    private static void theHead() {
        canCome("", "H");
        canCome("H", "0123");
        for (int r = 0; r <= 3; r++) {
            fault("H" + r, NONE);
            OnlyNamed x = Due.houseOf("H" + r);
            due.is("r", x.count(3), r);
            due.is("no things, no people", x.house(), 0);
            canCome("H" + r, "NP");
        }
        fault("H4", 1);
        fault("H/", 1);
        fault("H-1", 1);
        fault("H01", 2);
    }

    /** "a THING (8 at most". */
    private static void things8AtMost() {
        String text = "H0";
        for (int things = 1; things <= 8; things++) {
            text += EIGHT.split("(?=N)")[things - 1];
            fault(text, NONE);
            due.is("house of " + text, Due.houseOf(text).count(1), things);
        }
        fault("H0" + EIGHT + "N", 20);
        fault("H0" + EIGHT + "Nb", 20);
        fault("H0" + EIGHT + "Nbb", 20);
        fault("H0" + EIGHT + "P1N", 22);
        fault("H0NaNbNcNdNeNfNaaNabcdeN", 23);
        canCome("H0NaNbNcNdNeNfNaaNabcde", "P");
        canCome("H0" + EIGHT, SOUNDS + "P");
        canCome("H0" + EIGHT + "P1", "PK");
        canCome("H0NaNbNcNdNeNfNaaP1", "NPK");
    }

    /** "with its NAME: 1 to 5 SOUNDS, a to f". */
    private static void sounds1To5() {
        String name = "";
        canCome("H0N", SOUNDS);
        for (int length = 1; length <= 5; length++) {
            name += SOUNDS.charAt(6 - length);
            fault("H0N" + name, NONE);
            due.is("sounds of " + name, Due.houseOf("H0N" + name).count(7), length);
            canCome("H0N" + name, length < 5 ? SOUNDS + "NP" : "NP");
            canCome("H0P1N" + name, length < 5 ? SOUNDS + "NPK" : "NPK");
        }
        fault("H0N", 3);
        fault("H0NN", 3);
        fault("H0NP1", 3);
        fault("H0Nabcdef", 8);
        fault("H0Ng", 3);
        fault("H0N`", 3);
        fault("H0NaNbg", 6);
    }

    /** "no two NAMES alike": shows behind the last sound of one of fewer than five, at that of one of five. */
    private static void noTwoNamesAlike() {
        String[] names = {"f", "fa", "fab", "fabc"};
        String[] others = {"", "Nb", "NbP1", "NbP1K00NddP2"};
        for (String name : names) {
            for (String between : others) {
                String text = "H0N" + name + between + "N" + name;
                int place = text.length();
                fault(text, place);
                for (String behind : new String[] {"N", "P", "K", "Nc", "P3", "g", "H", "\0", "0"}) {
                    fault(text + behind, place);
                }
                for (char sound : SOUNDS.toCharArray()) {
                    fault(text + sound, NONE);
                }
            }
        }
        for (String between : others) {
            String text = "H0Nabcde" + between + "Nabcd";
            fault(text, NONE);
            fault(text + "e", text.length());
            fault(text + "eN", text.length());
            fault(text + "f", NONE);
            fault(text + "fN", text.length() + 2);
            canCome(text, between.isEmpty() || between.equals("Nb") ? "abcdfNP" : "abcdfNPK");
        }
        fault("H0NaNbNcNdNeNfNaaNf", 19);
        fault("H0NfNbNcNdNeNaNaaNf", 19);
    }

    /** "whatever other NAMES were told": also where no longer name is left that begins so. */
    private static void alikeWhateverOthersWereTold() {
        String six = "NabcdaNabcdbNabcdcNabcddNabcdeNabcdf";
        fault("H0Nabcd" + six + "Nabcd", 48);
        fault("H0Nabcd" + six + "NabcdP1", 48);
        for (char sound : SOUNDS.toCharArray()) {
            fault("H0Nabcd" + six + "Nabcd" + sound, 48);
        }
        fault("H0" + six + "Nabcd", NONE);
        fault("H0" + six + "Nabcda", 43);
    }

    /** A name that begins as another one, or ends so, is not like it. */
    private static void alikeOnlyInPart() {
        fault("H0NaNaaNaaaNaaaaNaaaaa", NONE);
        fault("H0NaaaaaNaaaaNaaaNaaNa", NONE);
        fault("H0NabNbaNaNbNbab", NONE);
        fault("H0NabcdeNbcdeNcdeNdeNe", NONE);
        due.is("all five are there", Due.houseOf("H0NaNaaNaaaNaaaaNaaaaa").house(), 50);
    }

    /** "a PERSON (6 at most". */
    private static void people6AtMost() {
        for (int people = 1; people <= 6; people++) {
            String text = "H0" + SIX.substring(0, 2 * people);
            fault(text, NONE);
            due.is("house of " + text, Due.houseOf(text).house(), people);
            canCome(text, people < 6 ? "NP" : "N");
        }
        fault("H0" + SIX + "P", 14);
        fault("H0" + SIX + "P1", 14);
        fault("H0" + SIX + "NaP1", 16);
        canCome("H0Na" + SIX, "NK");
        fault("H0" + SIX + EIGHT, NONE);
    }

    /** "who can bear s (1 to 9)". */
    private static void bears1To9() {
        canCome("H0P", "123456789");
        canCome("H0NaP", "123456789");
        for (int s = 1; s <= 9; s++) {
            fault("H0P" + s, NONE);
            fault("H0P" + s + s, 4);
        }
    }

    /** "(figures of such as were told ahead)". */
    private static void figuresOfSuchAsWereToldAhead() {
        canCome("H0NaP1K", "0");
        canCome("H0NaP1K0", "0");
        for (int people = 1; people <= 6; people++) {
            for (int things = 1; things <= 8; things++) {
                String text = "H0" + EIGHT.substring(0, things <= 6 ? 2 * things : 3 * things - 6) + SIX.substring(0, 2 * people) + "K";
                canCome(text, "012345".substring(0, people));
                canCome(text + (people - 1), "01234567".substring(0, things));
                fault(text + (people - 1) + (things - 1), NONE);
                fault(text + people, text.length());
                fault(text + "0" + things, text.length() + 1);
            }
        }
        fault("H0NaP1K01Nb", 8);
        fault("H0NaP1K10P1", 7);
        fault("H0NaNbP1K01P1K10", NONE);
        fault("H0K", 2);
        fault("H0NaK", 4);
        fault("H0P1K", 4);
        fault("H0NaK00P1", 4);
        fault("H0P1K00Na", 4);
    }

    /** "no pair twice": at the thing's figure, or ahead of it where the person knows all that were told. */
    private static void noPairTwice() {
        fault("H0NaNbP1K00K00", 13);
        fault("H0NaNbP1K01K01", 13);
        fault("H0NaNbP1P1K00K10K00", 18);
        fault("H0NaNbP1P1K00K10K11K00", 21);
        fault("H0NaNbP1P1K01K10", NONE);
        fault("H0NaNbP1P1K01K10K11K00", NONE);
        canCome("H0NaNbNcP1K01K0", "02");
        canCome("H0NaNbNcP1P1K01K12K0", "02");
        canCome("H0NaNbNcP1P1K01K12K1", "01");
        due.is("a pair and its other way round", Due.houseOf("H0NaNbP1P1K01K10").knows(0), 2);
    }

    /** Where a person knows all, its figure can not come; where all know all, K can not. */
    private static void nothingIsLeftToKnow() {
        fault("H0NaP1K00K", 9);
        fault("H0NaP1P1K00K0", 12);
        canCome("H0NaP1K00", "NP");
        canCome("H0NaP1P1K00K", "1");
        canCome("H0NaP1P1P1K00K20K", "1");
        canCome("H0NaNbP1P1K00K01K", "1");
        canCome("H0NaNbP1P1K00K01K10", "NPK");
        canCome("H0NaNbP1P1K00K01K10K11", "NP");
        fault("H0NaP1K00NbK01", NONE);
        fault("H0NaP1K00NbK00", 13);
        fault("H0NaP1K00P1K10", NONE);
        fault("H0NaP1K00P1K00", 12);
        String text = "H0NaNbNc" + SIX;
        for (int person = 0; person < 6; person++) {
            for (int thing = 0; thing < 3; thing++) {
                fault(text, NONE);
                text += "K" + person + thing;
            }
        }
        fault(text, NONE);
        fault(text + "K", text.length());
        canCome(text, "N");
        due.is("all know all", Due.houseOf(text).knows(2), 63);
    }

    /** "its length, if it is only not at its end". */
    private static void onlyNotAtItsEnd() {
        for (String text : new String[] {"", "H", "H0N", "H0NaN", "H0P", "H0NaP", "H0NaP1K", "H0NaP1K0", "H0NabcdeN", "H3P9P"}) {
            fault(text, text.length());
        }
        for (String text : new String[] {"H0", "H0Na", "H0Nabcde", "H0P1", "H0NaP1", "H0NaP1K00"}) {
            fault(text, NONE);
        }
    }

    /** "(its length set aside": a start that 96 bytes would not be enough for has no fault ahead of its end. */
    private static void itsLengthSetAside() {
        StringBuilder text = new StringBuilder("H0" + SIX + EIGHT);
        for (int pair = 0; text.length() + 3 <= 96; pair++) {
            text.append('K').append(pair % 6).append(pair / 6);
        }
        due.is("95 bytes", text.length(), 95);
        fault(text.toString(), NONE);
        fault(text + "K", 96);
        fault(text + "X", 95);
        fault(text + "P", 95);
        String names = "H0NabcdeNbcdefNcdefaNdefabNefabcNfabcdNaaaaa" + SIX + "K00K01K02K03K04K05K06K10K11K12K13K14";
        due.is("92 bytes", names.length(), 92);
        fault(names + "NbbN", 95);
        fault(names + "Nbbb", NONE);
        fault(names + "K15N", 96);
        fault(names + "K15K", 96);
        fault(names + "NbbK", 96);
    }

    /** "numbered as they are told", "likewise": whatever comes between. */
    private static void numberedAsTheyAreTold() {
        OnlyNamed x = Due.houseOf("H1P3NfP9NeeK10P1K11NdddK22");
        due.is("house", x.house(), 33);
        due.same("names", Due.nameOf(x, 0) + Due.nameOf(x, 1) + Due.nameOf(x, 2), "feeddd");
        due.is("knows(0)", x.knows(0), 2);
        due.is("knows(1)", x.knows(1), 2);
        due.is("knows(2)", x.knows(2), 4);
        due.is("the second bears 9", x.lifts(1), 3);
        due.is("the third bears 1", x.lifts(2), 0);
    }

    private static void theMostThatAHouseCanHave() {
        String text = "H3" + SIX + EIGHT + "K07K57K50K41K32K23K14K05K06K17K27K37K47K00K10K20K30K40K01K11K51";
        due.is("95 bytes", text.length(), 95);
        OnlyNamed x = Due.houseOf(text);
        due.is("house", x.house(), 86);
        int[] knows = {63, 51, 8, 4, 2, 1, 1, 63};
        for (int thing = 0; thing < 8; thing++) {
            due.is("knows(" + thing + ")", x.knows(thing), knows[thing]);
        }
        due.is("sounds of all", x.count(7), 10);
        due.is("live", x.count(6), 8);
        x = Due.houseOf("H0NabcdeNbcdefNcdefaNdefabNefabcNfabcdNaaaaaNbbbbb");
        due.is("the most sounds", x.count(7), 40);
    }
}
