/** Compares answers with what is due, and ends the machine with 1 if one was not. */
final class Due {
    private final String test;
    private int wrong;
    private int calls;

    Due(String test) {
        this.test = test;
    }

    void is(String call, long got, long want) {
        calls++;
        if (got != want) {
            wrong++;
            System.out.println(test + ": " + call + " answered " + got + ", due is " + want);
        }
    }

    int calls() {
        return calls;
    }

    void end() {
        System.out.println(test + ": " + calls + " answers looked at, " + wrong + " not as due");
        if (wrong != 0 || calls == 0) {
            System.exit(1);
        }
    }

    /** Writes a text in parts of up to 8 bytes; answers what the last write did. */
    static int tell(OnlyNamed x, String text) {
        int answer = 0;
        for (int from = 0; from < text.length(); from += 8) {
            int n = Math.min(8, text.length() - from);
            long v = 0;
            for (int i = 0; i < n; i++) {
                v = v << 8 | text.charAt(from + i) & 255;
            }
            answer = x.write(n, v);
        }
        return answer;
    }

    /** A new object in which this house is told and settled. */
    static OnlyNamed houseOf(String text) {
        OnlyNamed x = new OnlyNamed();
        settle(x, text);
        return x;
    }

    static int settle(OnlyNamed x, String text) {
        x.wipe();
        tell(x, text);
        return x.house();
    }

    /** The fault of a text in a new object. */
    static int faultOf(String text) {
        OnlyNamed x = new OnlyNamed();
        tell(x, text);
        return x.fault();
    }

    /** The name of a thing as letters. */
    static String nameOf(OnlyNamed x, int thing) {
        StringBuilder name = new StringBuilder();
        for (int i = 0; i < 9 && x.sound(thing, i) >= 0; i++) {
            name.append((char) ('a' + x.sound(thing, i)));
        }
        return name.toString();
    }

    static String freshOf(OnlyNamed x) {
        StringBuilder name = new StringBuilder();
        for (int i = 0; i < 9 && x.fresh(i) >= 0; i++) {
            name.append((char) ('a' + x.fresh(i)));
        }
        return name.toString();
    }

    void same(String call, String got, String want) {
        calls++;
        if (!got.equals(want)) {
            wrong++;
            System.out.println(test + ": " + call + " answered " + got + ", due is " + want);
        }
    }
}
