import java.util.Random;

/** Long runs of calls, by fixed seeds, each answered by OnlyNamed and by the plain model alike. */
public final class ModelTest {
    /** An object is used for so many calls. */
    private static final int CALLS = 512;
    /** No step makes more calls than this: a text takes 98 at most. */
    private static final int CALLS_OF_A_STEP = 120;
    private static final Due due = new Due("ModelTest");

    private final Random random;
    private final OnlyNamed x = new OnlyNamed();
    private final PlainModel m = new PlainModel();
    private final String run;

    private ModelTest(long seed) {
        random = new Random(seed);
        run = "run " + seed + ": ";
    }

    public static void main(String[] args) {
        int runs = args.length > 0 ? Integer.parseInt(args[0]) : 150;
        int from = args.length > 1 ? Integer.parseInt(args[1]) : 0;
        for (int seed = from; seed < from + runs; seed++) {
            new ModelTest(seed).run();
        }
        for (int seed = from; seed < from + 20 * runs; seed++) {
            new ModelTest(seed).oneFault();
        }
        due.end();
    }

    private void run() {
        int before = due.calls();
        while (due.calls() - before <= CALLS - CALLS_OF_A_STEP) {
            oneStep(due.calls() == before);
        }
    }

    private int below(int n) {
        return random.nextInt(n);
    }

    /** Mostly a number from 0 to n, now and then one far off. */
    private int upTo(int n) {
        if (below(40) == 0) {
            return new int[] {-1, -2, n + 1, Integer.MIN_VALUE, Integer.MAX_VALUE}[below(5)];
        }
        return below(n + 1);
    }

    private int thing() {
        return upTo(Math.max(0, m.count(1) - (below(10) == 0 ? 0 : 1)));
    }

    private int person() {
        return upTo(Math.max(0, m.count(2) - (below(10) == 0 ? 0 : 1)));
    }

    private int things() {
        int all = (1 << m.count(1)) - 1;
        switch (below(4)) {
            case 0: return all;
            case 1: return m.live();
            default: return upTo(all);
        }
    }

    private String houseText() {
        StringBuilder s = new StringBuilder("H").append(below(4) * below(2));
        int things = 0;
        int people = 0;
        int sounds = 1 + below(5);
        int kinds = 2 + below(5);
        int most = 1 + below(9);
        for (int part = 4 + below(40); part > 0; part--) {
            switch (things < 2 ? below(2) : below(9)) {
                case 0:
                    if (things < 8) {
                        s.append('N');
                        for (int i = 1 + below(sounds); i > 0; i--) {
                            s.append((char) ('a' + below(kinds)));
                        }
                        things++;
                    }
                    break;
                case 1:
                    if (people < 6) {
                        s.append('P').append(1 + below(most));
                        people++;
                    }
                    break;
                default:
                    if (things > 0 && people > 0) {
                        String pair = "K" + below(people) + below(things);
                        if (s.indexOf(pair) < 0) {
                            s.append(pair);
                        }
                    }
            }
        }
        return s.length() > 96 ? s.substring(0, 96) : s.toString();
    }

    private String hurt(String s) {
        StringBuilder t = new StringBuilder(s);
        int at = below(t.length());
        String bytes = "HNPKNPK0123456789abcdefgX";
        switch (below(4)) {
            case 0: t.setLength(at + 1); break;
            case 1: t.setCharAt(at, bytes.charAt(below(bytes.length()))); break;
            case 2: t.deleteCharAt(at); break;
            default: t.insert(at, bytes.charAt(below(bytes.length())));
        }
        return t.length() > 96 ? t.substring(0, 96) : t.toString();
    }

    private void told(String text) {
        due.is(run + "wipe", x.wipe(), m.wipe());
        for (int from = 0; from < text.length();) {
            int n = Math.min(1 + below(8), text.length() - from);
            long v = random.nextLong();
            for (int i = 0; i < n; i++) {
                v = v << 8 | text.charAt(from + i) & 255;
            }
            due.is(run + "write " + text, x.write(n, v), m.write(n, v));
            from += n;
        }
        due.is(run + "fault of " + text, x.fault(), m.fault());
    }

    private void oneFault() {
        told(hurt(houseText()));
    }

    private void oneStep(boolean first) {
        if (first || below(90) == 0) {
            String text = houseText();
            for (int tries = 0; tries < 50 && PlainModel.faultOf(text) != PlainModel.NONE; tries++) {
                text = houseText();
            }
            told(text);
            due.is(run + "house of " + text, x.house(), m.house());
            return;
        }
        switch (below(5)) {
            case 0: theHouse(); break;
            case 1: said(); break;
            case 2: carried(); break;
            case 3: songs(); break;
            default: slots();
        }
    }

    private void theHouse() {
        int t = thing();
        int o = thing();
        int i = upTo(5);
        switch (below(9)) {
            case 0: due.is(run + "sound(" + t + ", " + i + ")", x.sound(t, i), m.sound(t, i)); break;
            case 1: due.is(run + "off(" + t + ", " + o + ")", x.off(t, o), m.off(t, o)); break;
            case 2: due.is(run + "near(" + t + ")", x.near(t), m.near(t)); break;
            case 3: due.is(run + "knows(" + t + ")", x.knows(t), m.knows(t)); break;
            case 4: due.is(run + "live()", x.live(), m.live()); break;
            case 5: {
                int n = below(6) == 0 ? upTo(99) : 1 + below(5);
                due.is(run + "days(" + n + ")", x.days(n), m.days(n));
                break;
            }
            case 6: due.is(run + "fades(" + t + ")", x.fades(t), m.fades(t)); break;
            case 7: {
                int n = upTo(9);
                long v = random.nextLong();
                due.is(run + "write(" + n + ", " + v + ")", x.write(n, v), m.write(n, v));
                break;
            }
            default:
                due.is(run + "fault()", x.fault(), m.fault());
                due.is(run + "house()", x.house(), m.house());
        }
    }

    private void said() {
        int p = person();
        int o = person();
        int t = thing();
        int i = upTo(5);
        int h = upTo((1 << m.count(2)) - 1);
        switch (below(6)) {
            case 0:
            case 1:
            case 2: due.is(run + "say(" + p + ", " + t + ", " + h + ")", x.say(p, t, h), m.say(p, t, h)); break;
            case 3: due.is(run + "give(" + p + ", " + o + ", " + t + ")", x.give(p, o, t), m.give(p, o, t)); break;
            case 4: due.is(run + "fresh(" + i + ")", x.fresh(i), m.fresh(i)); break;
            default: due.is(run + "anew(" + p + ", " + t + ")", x.anew(p, t), m.anew(p, t));
        }
    }

    private void carried() {
        int p = person();
        int s = things();
        int d = upTo(99);
        int t = thing();
        switch (below(8)) {
            case 0: due.is(run + "lifts(" + p + ")", x.lifts(p), m.lifts(p)); break;
            case 1: due.is(run + "stands(" + p + ", " + s + ")", x.stands(p, s), m.stands(p, s)); break;
            case 2:
                for (int q = -1; q <= m.count(2); q++) {
                    due.is(run + "carries(" + q + ", " + s + ")", x.carries(q, s), m.carries(q, s));
                }
                break;
            case 3: due.is(run + "times(" + s + ")", x.times(s), m.times(s)); break;
            case 4: due.is(run + "worth(" + p + ")", x.worth(p), m.worth(p)); break;
            case 5: due.is(run + "upkeep(" + s + ", " + d + ")", x.upkeep(s, d), m.upkeep(s, d)); break;
            case 6: due.is(run + "mayHave(" + t + ")", x.mayHave(t), m.mayHave(t)); break;
            default:
                for (int part = 0; part < 1 << m.count(1); part += 4 + below(20)) {
                    due.is(run + "times(" + part + ")", x.times(part), m.times(part));
                }
        }
    }

    private void songs() {
        int n = below(3) == 0 ? upTo(8) : 1 + below(5);
        int name = upTo(n < 1 || n > 8 ? 7 : n - 1);
        int s = below(4) == 0 ? upTo(255) : below(256) | below(256);
        int k = upTo(6);
        switch (below(12)) {
            case 0: due.is(run + "silence()", x.silence(), m.silence()); break;
            case 1:
            case 2: due.is(run + "ways(" + n + ")", x.ways(n), m.ways(n)); break;
            case 3:
            case 4: due.is(run + "mayBe(" + n + ", " + name + ")", x.mayBe(n, name), m.mayBe(n, name)); break;
            case 5:
            case 6: due.is(run + "breaks(" + n + ")", x.breaks(n), m.breaks(n)); break;
            case 7:
            case 8: due.is(run + "twins(" + k + ")", x.twins(k), m.twins(k)); break;
            default: due.is(run + "line(" + name + ", " + s + ")", x.line(name, s), m.line(name, s));
        }
    }

    private void slots() {
        int slot = upTo(1);
        int what = upTo(7);
        switch (below(4)) {
            case 0: due.is(run + "keep(" + slot + ")", x.keep(slot), m.keep(slot)); break;
            case 1: due.is(run + "again(" + slot + ")", x.again(slot), m.again(slot)); break;
            default: due.is(run + "count(" + what + ")", x.count(what), m.count(what));
        }
    }
}
