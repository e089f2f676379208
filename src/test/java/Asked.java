import java.util.ArrayList;
import java.util.List;
import java.util.function.ToIntFunction;

/** All that can be asked of an object: what it answers tells of all its state but the text behind a fault, and the slots. */
final class Asked {
    private final List<String> calls = new ArrayList<>();
    private final List<Integer> answers = new ArrayList<>();
    private final OnlyNamed x;

    private Asked(OnlyNamed x) {
        this.x = x;
    }

    /** Asks some 230 times. */
    static Asked of(OnlyNamed x) {
        Asked asked = new Asked(x);
        asked.house();
        asked.carried();
        asked.songs();
        return asked;
    }

    private void ask(String call, int answer) {
        calls.add(call);
        answers.add(answer);
    }

    private void house() {
        ask("fault()", x.fault());
        for (int what = 0; what < 8; what++) {
            ask("count(" + what + ")", x.count(what));
        }
        ask("live()", x.live());
        for (int t = 0; t < 8; t++) {
            ask("knows(" + t + ")", x.knows(t));
            ask("near(" + t + ")", x.near(t));
            ask("fades(" + t + ")", x.fades(t));
            for (int i = 0; i < 6; i++) {
                ask("sound(" + t + ", " + i + ")", x.sound(t, i));
            }
            ask("off(" + t + ", " + (t + 1) % 8 + ")", x.off(t, (t + 1) % 8));
        }
        for (int i = 0; i < 6; i++) {
            ask("fresh(" + i + ")", x.fresh(i));
        }
    }

    private void carried() {
        int things = (1 << Math.max(0, x.count(1))) - 1;
        for (int p = 0; p < 6; p++) {
            ask("lifts(" + p + ")", x.lifts(p));
            ask("stands(" + p + ", " + things + ")", x.stands(p, things));
            ask("carries(" + p + ", " + things + ")", x.carries(p, things));
            ask("carries(" + p + ", " + (things & 5) + ")", x.carries(p, things & 5));
            ask("worth(" + p + ")", x.worth(p));
        }
        ask("times(" + things + ")", x.times(things));
        ask("times(" + (things & 3) + ")", x.times(things & 3));
        ask("upkeep(" + things + ", 9)", x.upkeep(things, 9));
        ask("upkeep(" + things + ", 99)", x.upkeep(things, 99));
        for (int t = 0; t < 8; t++) {
            ask("mayHave(" + t + ")", x.mayHave(t));
        }
    }

    private void songs() {
        for (int n = 1; n <= 8; n++) {
            ask("ways(" + n + ")", x.ways(n));
            ask("breaks(" + n + ")", x.breaks(n));
            ask("mayBe(8, " + (n - 1) + ")", x.mayBe(8, n - 1));
            ask("mayBe(" + n + ", 0)", x.mayBe(n, 0));
        }
        for (int k = 1; k < 6; k++) {
            ask("twins(" + k + ")", x.twins(k));
        }
    }

    /** Each answer must be the other's, but for calls of these names. */
    void same(Due due, String behind, Asked other, String... butFor) {
        for (int i = 0; i < calls.size(); i++) {
            if (!isOneOf(calls.get(i), butFor)) {
                due.is(behind + ", then " + calls.get(i), answers.get(i), other.answers.get(i));
            }
        }
    }

    private static boolean isOneOf(String call, String[] names) {
        for (String name : names) {
            if (call.startsWith(name)) {
                return true;
            }
        }
        return false;
    }

    /** What comes behind a state, by which all that no question shows is seen: the text, each slot, the day. */
    static final List<ToIntFunction<OnlyNamed>> BEHIND = List.of(
        x -> 0,
        x -> x.write(1, '1') * 100 + x.house(),
        x -> x.again(0),
        x -> x.again(1),
        x -> x.days(1) * 100 + x.line(2, 9),
        x -> x.wipe() * 100 + x.silence());
}
