import java.util.ArrayList;
import java.util.HashMap;
import java.util.List;
import java.util.Map;
import java.util.regex.Matcher;
import java.util.regex.Pattern;

/** The document once more, by other means: texts, trials of all there is, no care for speed. */
final class PlainModel {
    static final int UNKNOWN = -1, OUTSIDE = -2, STATE = -3, FULL = -4, NONE = -9;

    private String text = "";
    private House house = new House();
    private final House[] slots = new House[2];
    private final List<int[]> lines = new ArrayList<>();

    /** A house with all that a slot keeps. */
    private static final class House {
        int r;
        int day;
        final List<String> names = new ArrayList<>();
        final List<Integer> said = new ArrayList<>();
        final List<Integer> bears = new ArrayList<>();
        /** knows.get(t) are bits of people. */
        final List<Integer> knows = new ArrayList<>();

        House twin() {
            House h = new House();
            h.r = r;
            h.day = day;
            h.names.addAll(names);
            h.said.addAll(said);
            h.bears.addAll(bears);
            h.knows.addAll(knows);
            return h;
        }

        boolean isLive(int t) {
            return day - said.get(t) <= 9;
        }
    }

    private static final Pattern PARTS = Pattern.compile("N([a-f]{1,5})|P([1-9])|K([0-9])([0-9])");

    /** The house that a whole text tells of; null if it is none. */
    private static House read(String s) {
        if (!s.matches("(?s)H[0-3].*")) {
            return null;
        }
        House h = new House();
        h.r = s.charAt(1) - '0';
        Matcher m = PARTS.matcher(s);
        int at = 2;
        while (at < s.length()) {
            m.region(at, s.length());
            if (!m.lookingAt()) {
                return null;
            }
            if (m.group(1) != null) {
                if (h.names.contains(m.group(1)) || h.names.size() == 8) {
                    return null;
                }
                h.names.add(m.group(1));
                h.said.add(0);
                h.knows.add(0);
            } else if (m.group(2) != null) {
                if (h.bears.size() == 6) {
                    return null;
                }
                h.bears.add(Integer.parseInt(m.group(2)));
            } else {
                int p = Integer.parseInt(m.group(3));
                int t = Integer.parseInt(m.group(4));
                if (p >= h.bears.size() || t >= h.names.size() || (h.knows.get(t) >> p & 1) == 1) {
                    return null;
                }
                h.knows.set(t, h.knows.get(t) | 1 << p);
            }
            at = m.end();
        }
        return h;
    }

    /** Whether a start of a text can become a house: no start needs more than two bytes to be one. */
    private static boolean canBecomeHouse(String s) {
        if (read(s) != null) {
            return true;
        }
        String alphabet = "HNPK0123456789abcdef";
        for (char a : alphabet.toCharArray()) {
            if (read(s + a) != null) {
                return true;
            }
        }
        for (char a : alphabet.toCharArray()) {
            for (char b : alphabet.toCharArray()) {
                if (read(s + a + b) != null) {
                    return true;
                }
            }
        }
        return false;
    }

    static int faultOf(String s) {
        for (int place = 0; place < s.length(); place++) {
            if (!canBecomeHouse(s.substring(0, place + 1))) {
                return place;
            }
        }
        return read(s) == null ? s.length() : NONE;
    }

    static int apart(String a, String b) {
        int[][] d = new int[a.length() + 1][b.length() + 1];
        for (int i = 0; i <= a.length(); i++) {
            for (int j = 0; j <= b.length(); j++) {
                if (i == 0 || j == 0) {
                    d[i][j] = i + j;
                } else {
                    int change = a.charAt(i - 1) == b.charAt(j - 1) ? 0 : 1;
                    d[i][j] = Math.min(d[i - 1][j - 1] + change, 1 + Math.min(d[i - 1][j], d[i][j - 1]));
                }
            }
        }
        return d[a.length()][b.length()];
    }

    private boolean thing(int t) {
        return t >= 0 && t < house.names.size();
    }

    private boolean person(int p) {
        return p >= 0 && p < house.bears.size();
    }

    private boolean things(int bits) {
        return bits >= 0 && bits < 1 << house.names.size();
    }

    int write(int n, long v) {
        if (n < 1 || n > 8) {
            return OUTSIDE;
        }
        if (text.length() + n > 96) {
            return FULL;
        }
        String bytes = "";
        for (int i = 0; i < n; i++) {
            bytes = (char) (v & 255) + bytes;
            v >>= 8;
        }
        text += bytes;
        return text.length();
    }

    int wipe() {
        int length = text.length();
        text = "";
        return length;
    }

    int fault() {
        return faultOf(text);
    }

    int house() {
        if (faultOf(text) != NONE) {
            return STATE;
        }
        house = read(text);
        slots[0] = null;
        slots[1] = null;
        return 10 * house.names.size() + house.bears.size();
    }

    int sound(int t, int i) {
        if (!thing(t)) {
            return UNKNOWN;
        }
        return soundOf(house.names.get(t), i);
    }

    private static int soundOf(String name, int i) {
        return i >= 0 && i < name.length() ? name.charAt(i) - 'a' : NONE;
    }

    int off(int t, int o) {
        return thing(t) && thing(o) ? apart(house.names.get(t), house.names.get(o)) : UNKNOWN;
    }

    int near(int t) {
        if (!thing(t)) {
            return UNKNOWN;
        }
        if (!house.isLive(t)) {
            return STATE;
        }
        int bits = 0;
        for (int o = 0; o < house.names.size(); o++) {
            if (o != t && house.isLive(o) && off(t, o) <= house.r) {
                bits += 1 << o;
            }
        }
        return bits;
    }

    int knows(int t) {
        return thing(t) ? house.knows.get(t) : UNKNOWN;
    }

    int live() {
        int bits = 0;
        for (int t = 0; t < house.names.size(); t++) {
            bits += house.isLive(t) ? 1 << t : 0;
        }
        return bits;
    }

    int days(int n) {
        if (n < 1 || n > 99) {
            return OUTSIDE;
        }
        int faded = 0;
        for (int day = 0; day < n; day++) {
            house.day++;
            for (int t = 0; t < house.names.size(); t++) {
                if (house.day - house.said.get(t) == 10) {
                    faded |= 1 << t;
                    house.knows.set(t, 0);
                }
            }
        }
        return faded;
    }

    int fades(int t) {
        if (!thing(t)) {
            return UNKNOWN;
        }
        if (!house.isLive(t)) {
            return STATE;
        }
        House later = house.twin();
        int days = 0;
        while (later.isLive(t)) {
            later.day++;
            days++;
        }
        return days;
    }

    int say(int p, int t, int hearers) {
        if (!person(p) || !thing(t)) {
            return UNKNOWN;
        }
        if (hearers < 0 || hearers >= 1 << house.bears.size()) {
            return OUTSIDE;
        }
        if ((house.knows.get(t) >> p & 1) == 0) {
            return STATE;
        }
        house.said.set(t, house.day);
        house.knows.set(t, house.knows.get(t) | hearers);
        return house.knows.get(t);
    }

    int give(int p, int o, int t) {
        if (!person(p) || !person(o) || !thing(t)) {
            return UNKNOWN;
        }
        if (p == o || (house.knows.get(t) >> p & 1) == 0) {
            return STATE;
        }
        say(p, t, 1 << o);
        house.knows.set(t, house.knows.get(t) - (1 << p));
        return house.knows.get(t);
    }

    private String freshName() {
        List<String> names = List.of("");
        for (int length = 1; length <= 5; length++) {
            List<String> longer = new ArrayList<>();
            for (String name : names) {
                for (char c = 'a'; c <= 'f'; c++) {
                    longer.add(name + c);
                }
            }
            for (String name : longer) {
                if (isFar(name)) {
                    return name;
                }
            }
            names = longer;
        }
        return "";
    }

    private boolean isFar(String name) {
        for (int t = 0; t < house.names.size(); t++) {
            if (house.isLive(t) && apart(name, house.names.get(t)) <= house.r) {
                return false;
            }
        }
        return true;
    }

    int fresh(int i) {
        return soundOf(freshName(), i);
    }

    int anew(int p, int t) {
        if (!person(p) || !thing(t)) {
            return UNKNOWN;
        }
        if (house.isLive(t)) {
            return STATE;
        }
        String name = freshName();
        if (name.isEmpty()) {
            return STATE;
        }
        house.names.set(t, name);
        house.said.set(t, house.day);
        house.knows.set(t, 1 << p);
        return name.length();
    }

    private boolean lifts(int p, int t) {
        return (house.knows.get(t) >> p & 1) == 1 && near(t) == 0 && house.names.get(t).length() <= house.bears.get(p);
    }

    int lifts(int p) {
        if (!person(p)) {
            return UNKNOWN;
        }
        int bits = 0;
        for (int t = 0; t < house.names.size(); t++) {
            bits += lifts(p, t) ? 1 << t : 0;
        }
        return bits;
    }

    int stands(int p, int load) {
        if (!person(p)) {
            return UNKNOWN;
        }
        if (!things(load)) {
            return OUTSIDE;
        }
        int weight = 0;
        for (int t = 0; t < house.names.size(); t++) {
            if ((load >> t & 1) == 1) {
                weight += house.names.get(t).length();
                if (!lifts(p, t) || weight > house.bears.get(p)) {
                    return t;
                }
            }
        }
        return NONE;
    }

    /** All loads, for the people from p on, by which a set is carried, are tried from the least on. */
    private boolean firstWay(int p, int set, boolean[][] borne, int[] way, Map<Integer, Boolean> dead) {
        if (p == borne.length) {
            return set == 0;
        }
        if (dead.containsKey(p * 256 + set)) {
            return false;
        }
        for (int load = 0; load <= set; load++) {
            if ((load & set) == load && borne[p][load] && firstWay(p + 1, set - load, borne, way, dead)) {
                way[p] = load;
                return true;
            }
        }
        dead.put(p * 256 + set, true);
        return false;
    }

    private boolean[][] borne() {
        boolean[][] borne = new boolean[house.bears.size()][1 << house.names.size()];
        for (int p = 0; p < borne.length; p++) {
            int lifted = lifts(p);
            for (int load = 0; load < borne[p].length; load++) {
                int weight = 0;
                for (int t = 0; t < house.names.size(); t++) {
                    weight += (load >> t & 1) * house.names.get(t).length();
                }
                borne[p][load] = (load & lifted) == load && weight <= house.bears.get(p);
            }
        }
        return borne;
    }

    int carries(int p, int set) {
        if (!person(p)) {
            return UNKNOWN;
        }
        if (!things(set)) {
            return OUTSIDE;
        }
        int[] way = new int[house.bears.size()];
        return firstWay(0, set, borne(), way, new HashMap<>()) ? way[p] : STATE;
    }

    private int timesWith(int set, boolean[][] borne) {
        boolean[] atOnce = new boolean[set + 1];
        Map<Integer, Boolean> dead = new HashMap<>();
        for (int part = 0; part <= set; part++) {
            atOnce[part] = (part & set) == part && firstWay(0, part, borne, new int[borne.length], dead);
        }
        int[] best = new int[set + 1];
        for (int part = 1; part <= set; part++) {
            best[part] = 99;
            for (int time = 1; time <= part; time++) {
                if ((time & part) == time && atOnce[time]) {
                    best[part] = Math.min(best[part], 1 + best[part - time]);
                }
            }
        }
        return best[set] >= 99 ? NONE : best[set];
    }

    int times(int set) {
        return things(set) ? timesWith(set, borne()) : OUTSIDE;
    }

    int worth(int p) {
        if (!person(p)) {
            return UNKNOWN;
        }
        int set = 0;
        for (int q = 0; q < house.bears.size(); q++) {
            set |= lifts(q);
        }
        boolean[][] borne = borne();
        int with = timesWith(set, borne);
        for (int load = 1; load < borne[p].length; load++) {
            borne[p][load] = false;
        }
        int without = timesWith(set, borne);
        return without == NONE ? 99 : without - with;
    }

    int upkeep(int set, int d) {
        if (!things(set) || d < 0 || d > 99) {
            return OUTSIDE;
        }
        int sayings = 0;
        for (int t = 0; t < house.names.size(); t++) {
            if ((set >> t & 1) == 1 && house.isLive(t)) {
                int said = house.said.get(t);
                for (int day = house.day; day < house.day + d; day++) {
                    if (day + 1 - said > 9) {
                        said = day;
                        sayings++;
                    }
                }
            }
        }
        return sayings;
    }

    int mayHave(int t) {
        if (!thing(t)) {
            return UNKNOWN;
        }
        int bits = 0;
        for (int p = 0; p < house.bears.size(); p++) {
            bits += lifts(p, t) ? 1 << p : 0;
        }
        return bits;
    }

    int line(int name, int set) {
        if (name < 0 || name > 7 || set < 1 || set > 255) {
            return OUTSIDE;
        }
        if (lines.size() == 16) {
            return FULL;
        }
        lines.add(new int[] {name, set});
        return lines.size();
    }

    int silence() {
        int many = lines.size();
        lines.clear();
        return many;
    }

    /** All orders of things, name by name; found[name] gets the bits of what it is of in some way. */
    private int trials(int n, int firstLines, int name, int used, int[] given, int[] found) {
        if (name == n) {
            for (int i = 0; i < n; i++) {
                found[i] |= 1 << given[i];
            }
            return 1;
        }
        int many = 0;
        for (int t = 0; t < n; t++) {
            boolean can = (used >> t & 1) == 0;
            for (int l = 0; l < firstLines; l++) {
                can &= lines.get(l)[0] != name || (lines.get(l)[1] >> t & 1) == 1;
            }
            if (can) {
                given[name] = t;
                many += trials(n, firstLines, name + 1, used | 1 << t, given, found);
            }
        }
        return many;
    }

    int ways(int n) {
        return n < 1 || n > 8 ? OUTSIDE : trials(n, lines.size(), 0, 0, new int[n], new int[n]);
    }

    int mayBe(int n, int name) {
        if (n < 1 || n > 8 || name < 0 || name >= n) {
            return OUTSIDE;
        }
        int[] found = new int[n];
        trials(n, lines.size(), 0, 0, new int[n], found);
        return found[name];
    }

    int breaks(int n) {
        if (n < 1 || n > 8) {
            return OUTSIDE;
        }
        for (int l = 0; l < lines.size(); l++) {
            if (trials(n, l + 1, 0, 0, new int[n], new int[n]) == 0) {
                return l;
            }
        }
        return NONE;
    }

    int twins(int k) {
        if (k < 1 || k > 5) {
            return OUTSIDE;
        }
        int pairs = 0;
        for (int t = 0; t < house.names.size(); t++) {
            String there = "";
            for (char c : house.names.get(t).toCharArray()) {
                there += "abcdefabcdef".charAt(c - 'a' + k);
            }
            for (int o = 0; o < house.names.size(); o++) {
                pairs += house.isLive(t) && house.isLive(o) && o != t && there.equals(house.names.get(o)) ? 1 : 0;
            }
        }
        return pairs;
    }

    int keep(int slot) {
        if (slot < 0 || slot > 1) {
            return UNKNOWN;
        }
        slots[slot] = house.twin();
        return house.day;
    }

    int again(int slot) {
        if (slot < 0 || slot > 1) {
            return UNKNOWN;
        }
        if (slots[slot] == null) {
            return STATE;
        }
        house = slots[slot].twin();
        return house.day;
    }

    int count(int what) {
        int sounds = 0;
        for (String name : house.names) {
            sounds += name.length();
        }
        int[] all = {text.length(), house.names.size(), house.bears.size(), house.r, house.day, lines.size(),
            Integer.bitCount(live()), sounds};
        return what < 0 || what > 7 ? OUTSIDE : all[what];
    }
}
