/**
 * A house of things with names by sounds, and people who know some of them: ../shared/DOC.md says what each
 * call answers. All rows are made once, with the object, so that no call makes anything.
 */
public final class OnlyNamed {
    public static final int UNKNOWN = -1, OUTSIDE = -2, STATE = -3, FULL = -4, NONE = -9;

    private static final int MOST_BYTES = 96;
    private static final int MOST_THINGS = 8;
    private static final int MOST_PEOPLE = 6;
    private static final int MOST_SOUNDS = 5;
    private static final int KINDS_OF_SOUND = 6;
    private static final int MOST_R = 3;
    private static final int MOST_BEAR = 9;
    private static final int MOST_LINES = 16;
    private static final int SLOTS = 2;
    private static final int LIVE_DAYS = 9;
    private static final int MOST_DAYS = 99;
    private static final int NOT_WITHOUT = 99;
    /** How many sets there are of as many things as a house, or the old house of the songs, can have. */
    private static final int SETS = 256;
    /** Far above the some ten thousand starts of names that there are. */
    private static final int MOST_STEPS = 1000000;
    /** No name: every name has a sound, and so is more than this. */
    private static final int NO_NAME = 0;

    private final Text text;
    private final Telling telling;
    private final House house;
    private final Memory memory;
    private final Memory[] slots;
    private final Ruler ruler;
    private final Search search;
    private final Carriers carriers;
    private final Songs songs;

    public OnlyNamed() {
        text = new Text();
        telling = new Telling();
        house = new House();
        memory = new Memory();
        slots = new Memory[SLOTS];
        for (int slot = 0; slot < SLOTS; slot++) {
            slots[slot] = new Memory();
        }
        ruler = new Ruler();
        search = new Search();
        carriers = new Carriers();
        songs = new Songs();
    }

    // ---- the house

    public int write(int n, long v) {
        if (n < 1 || n > 8) {
            return OUTSIDE;
        }
        if (text.length + n > MOST_BYTES) {
            return FULL;
        }
        for (int i = n - 1; i >= 0; i--) {
            text.append((int) (v >>> (8 * i)) & 255);
        }
        return text.length;
    }

    public int wipe() {
        int before = text.length;
        text.length = 0;
        return before;
    }

    public int fault() {
        return telling.faultOf(text);
    }

    public int house() {
        if (telling.faultOf(text) != NONE) {
            return STATE;
        }
        house.settle(telling);
        memory.begin(telling);
        for (int slot = 0; slot < SLOTS; slot++) {
            Memory kept = slotAt(slot);
            if (kept != null) {
                kept.filled = false;
            }
        }
        return 10 * house.things + house.people;
    }

    public int sound(int thing, int i) {
        if (!house.hasThing(thing)) {
            return UNKNOWN;
        }
        return Name.soundAt(memory.names[thing], i);
    }

    public int off(int thing, int other) {
        if (!house.hasThing(thing) || !house.hasThing(other)) {
            return UNKNOWN;
        }
        return ruler.between(memory.names[thing], memory.names[other]);
    }

    public int near(int thing) {
        if (!house.hasThing(thing)) {
            return UNKNOWN;
        }
        if (!memory.isLive(thing)) {
            return STATE;
        }
        return nearTo(memory.names[thing], memory.liveOnes() & ~(1 << thing));
    }

    public int knows(int thing) {
        return house.hasThing(thing) ? memory.knowers[thing] : UNKNOWN;
    }

    public int live() {
        return memory.liveOnes();
    }

    public int days(int n) {
        if (n < 1 || n > MOST_DAYS) {
            return OUTSIDE;
        }
        return memory.pass(n);
    }

    public int fades(int thing) {
        if (!house.hasThing(thing)) {
            return UNKNOWN;
        }
        if (!memory.isLive(thing)) {
            return STATE;
        }
        return memory.said[thing] + LIVE_DAYS + 1 - memory.day;
    }

    // ---- said, given

    public int say(int person, int thing, int hearers) {
        if (!house.hasPerson(person) || !house.hasThing(thing)) {
            return UNKNOWN;
        }
        if (!house.arePeople(hearers)) {
            return OUTSIDE;
        }
        if (!has(memory.knowers[thing], person)) {
            return STATE;
        }
        memory.said[thing] = memory.day;
        memory.knowers[thing] |= hearers;
        return memory.knowers[thing];
    }

    public int give(int person, int other, int thing) {
        if (!house.hasPerson(person) || !house.hasPerson(other) || !house.hasThing(thing)) {
            return UNKNOWN;
        }
        if (person == other || !has(memory.knowers[thing], person)) {
            return STATE;
        }
        memory.said[thing] = memory.day;
        memory.knowers[thing] = (memory.knowers[thing] | 1 << other) & ~(1 << person);
        return memory.knowers[thing];
    }

    public int fresh(int i) {
        return Name.soundAt(freshName(), i);
    }

    public int anew(int person, int thing) {
        if (!house.hasPerson(person) || !house.hasThing(thing)) {
            return UNKNOWN;
        }
        if (memory.isLive(thing)) {
            return STATE;
        }
        int name = freshName();
        if (name == NO_NAME) {
            return STATE;
        }
        memory.names[thing] = name;
        memory.said[thing] = memory.day;
        memory.knowers[thing] = 1 << person;
        return Name.lengthOf(name);
    }

    // ---- carried

    public int lifts(int person) {
        if (!house.hasPerson(person)) {
            return UNKNOWN;
        }
        return liftedBy(person, clearOnes());
    }

    public int stands(int person, int things) {
        if (!house.hasPerson(person)) {
            return UNKNOWN;
        }
        if (!house.areThings(things)) {
            return OUTSIDE;
        }
        int lifted = liftedBy(person, clearOnes());
        int weight = 0;
        for (int thing = 0; thing < MOST_THINGS; thing++) {
            if (has(things, thing)) {
                weight += Name.lengthOf(memory.names[thing]);
                if (!has(lifted, thing) || weight > house.bears[person]) {
                    return thing;
                }
            }
        }
        return NONE;
    }

    public int carries(int person, int things) {
        if (!house.hasPerson(person)) {
            return UNKNOWN;
        }
        if (!house.areThings(things)) {
            return OUTSIDE;
        }
        gatherCarriers();
        carriers.pack(things);
        int times = carriers.timesFor(things);
        if (times == NONE || times > 1) {
            return STATE;
        }
        return carriers.firstWay(person, things);
    }

    public int times(int things) {
        if (!house.areThings(things)) {
            return OUTSIDE;
        }
        gatherCarriers();
        carriers.pack(things);
        return carriers.timesFor(things);
    }

    public int worth(int person) {
        if (!house.hasPerson(person)) {
            return UNKNOWN;
        }
        gatherCarriers();
        int things = carriers.allLifted();
        carriers.pack(things);
        int with = carriers.timesFor(things);
        carriers.lifted[person] = 0;
        carriers.pack(things);
        int without = carriers.timesFor(things);
        return without == NONE ? NOT_WITHOUT : without - with;
    }

    public int upkeep(int things, int d) {
        if (!house.areThings(things) || d < 0 || d > MOST_DAYS) {
            return OUTSIDE;
        }
        return memory.sayingsFor(things & memory.liveOnes(), d);
    }

    public int mayHave(int thing) {
        if (!house.hasThing(thing)) {
            return UNKNOWN;
        }
        int clear = clearOnes();
        int lifters = 0;
        for (int person = 0; person < MOST_PEOPLE; person++) {
            if (has(liftedBy(person, clear), thing)) {
                lifters |= 1 << person;
            }
        }
        return lifters;
    }

    // ---- songs, tongues

    public int line(int name, int things) {
        if (name < 0 || name >= MOST_THINGS || things < 1 || things >= SETS) {
            return OUTSIDE;
        }
        if (songs.lines >= MOST_LINES) {
            return FULL;
        }
        songs.sing(name, things);
        return songs.lines;
    }

    public int silence() {
        int before = songs.lines;
        songs.lines = 0;
        return before;
    }

    public int ways(int n) {
        return isOldHouse(n) ? songs.waysWith(n, songs.lines) : OUTSIDE;
    }

    public int mayBe(int n, int name) {
        if (!isOldHouse(n) || name < 0 || name >= n) {
            return OUTSIDE;
        }
        return songs.thingsOf(n, name);
    }

    public int breaks(int n) {
        return isOldHouse(n) ? songs.firstBreak(n) : OUTSIDE;
    }

    public int twins(int k) {
        if (k < 1 || k >= KINDS_OF_SOUND) {
            return OUTSIDE;
        }
        int pairs = 0;
        for (int thing = 0; thing < MOST_THINGS; thing++) {
            if (memory.isLive(thing)) {
                pairs += liveNamed(Name.inTongue(memory.names[thing], k));
            }
        }
        return pairs;
    }

    // ---- slots

    public int keep(int slot) {
        Memory kept = slotAt(slot);
        if (kept == null) {
            return UNKNOWN;
        }
        kept.copy(memory);
        kept.filled = true;
        return memory.day;
    }

    public int again(int slot) {
        Memory kept = slotAt(slot);
        if (kept == null) {
            return UNKNOWN;
        }
        if (!kept.filled) {
            return STATE;
        }
        memory.copy(kept);
        return memory.day;
    }

    public int count(int what) {
        switch (what) {
            case 0: return text.length;
            case 1: return house.things;
            case 2: return house.people;
            case 3: return house.r;
            case 4: return memory.day;
            case 5: return songs.lines;
            case 6: return Integer.bitCount(memory.liveOnes());
            case 7: return soundsOfAll();
            default: return OUTSIDE;
        }
    }

    // ---- what several calls need

    private static boolean has(int bits, int i) {
        return (bits >> i & 1) != 0;
    }

    private static boolean isSet(int bits) {
        return bits >= 0 && bits < SETS;
    }

    private static boolean isOldHouse(int n) {
        return n >= 1 && n <= MOST_THINGS;
    }

    /** The slot of this number; null if there is none. */
    private Memory slotAt(int slot) {
        return slot >= 0 && slot < SLOTS ? slots[slot] : null;
    }

    private int soundsOfAll() {
        int sounds = 0;
        for (int thing = 0; thing < MOST_THINGS; thing++) {
            sounds += Name.lengthOf(memory.names[thing]);
        }
        return sounds;
    }

    /** How many live names are this one. */
    private int liveNamed(int name) {
        int alike = 0;
        for (int thing = 0; thing < MOST_THINGS; thing++) {
            if (memory.isLive(thing) && memory.names[thing] == name) {
                alike++;
            }
        }
        return alike;
    }

    private int freshName() {
        search.begin();
        for (int thing = 0; thing < MOST_THINGS; thing++) {
            if (memory.isLive(thing)) {
                search.avoid(memory.names[thing]);
            }
        }
        return search.shortest(house.r);
    }

    /** Which of some things have names that are off by r or less from this one. */
    private int nearTo(int name, int things) {
        int nearOnes = 0;
        for (int thing = 0; thing < MOST_THINGS; thing++) {
            if (has(things, thing) && ruler.between(name, memory.names[thing]) <= house.r) {
                nearOnes |= 1 << thing;
            }
        }
        return nearOnes;
    }

    /** The live ones of which the names are near to no other one. */
    private int clearOnes() {
        int live = memory.liveOnes();
        int clear = live;
        for (int thing = 0; thing < MOST_THINGS; thing++) {
            if (has(live, thing)) {
                int behind = live & -(2 << thing);
                int nearOnes = nearTo(memory.names[thing], behind);
                if (nearOnes != 0) {
                    clear &= ~(nearOnes | 1 << thing);
                }
            }
        }
        return clear;
    }

    private int liftedBy(int person, int clear) {
        if (!house.hasPerson(person)) {
            return 0;
        }
        int lifted = 0;
        for (int thing = 0; thing < MOST_THINGS; thing++) {
            if (has(clear, thing) && has(memory.knowers[thing], person)
                    && Name.lengthOf(memory.names[thing]) <= house.bears[person]) {
                lifted |= 1 << thing;
            }
        }
        return lifted;
    }

    private void gatherCarriers() {
        int clear = clearOnes();
        for (int person = 0; person < MOST_PEOPLE; person++) {
            carriers.lifted[person] = liftedBy(person, clear);
            carriers.bears[person] = house.bears[person];
        }
        for (int thing = 0; thing < MOST_THINGS; thing++) {
            carriers.weights[thing] = Name.lengthOf(memory.names[thing]);
        }
    }

    /** A name in one number: three bits for each sound, the first lowest, each one more than its sound. */
    private static final class Name {
        static int soundAt(int name, int i) {
            if (i < 0 || i >= MOST_SOUNDS) {
                return NONE;
            }
            int bits = name >> (3 * i) & 7;
            return bits == 0 ? NONE : bits - 1;
        }

        static int withSound(int name, int i, int sound) {
            return name | (sound + 1) << (3 * i);
        }

        static int lengthOf(int name) {
            int length = 0;
            while (length < MOST_SOUNDS && name >> (3 * length) != 0) {
                length++;
            }
            return length;
        }

        static int inTongue(int name, int k) {
            int length = lengthOf(name);
            int there = NO_NAME;
            for (int i = 0; i < length; i++) {
                there = withSound(there, i, (soundAt(name, i) + k) % KINDS_OF_SOUND);
            }
            return there;
        }
    }

    private static final class Text {
        private final int[] bytes = new int[MOST_BYTES];
        int length;

        void append(int b) {
            if (length >= 0 && length < MOST_BYTES) {
                bytes[length] = b;
                length++;
            }
        }

        int at(int place) {
            return place >= 0 && place < MOST_BYTES ? bytes[place] : 0;
        }
    }

    /** Reads a text byte by byte, and holds what house it tells of. */
    private static final class Telling {
        private static final int AT_H = 0, AT_R = 1, AT_PART = 2, AT_NAME = 3, AT_BEAR = 4, AT_KNOWER = 5, AT_KNOWN = 6;

        final int[] names = new int[MOST_THINGS];
        final int[] knowers = new int[MOST_THINGS];
        final int[] bears = new int[MOST_PEOPLE];
        int r;
        int things;
        int people;
        private int pairs;
        private int awaited;
        private int name;
        private int sounds;
        private int knower;

        int faultOf(Text text) {
            r = 0;
            things = 0;
            people = 0;
            pairs = 0;
            awaited = AT_H;
            for (int place = 0; place < text.length; place++) {
                if (!take(text.at(place))) {
                    return place;
                }
            }
            boolean whole = awaited == AT_PART || awaited == AT_NAME && endName();
            return whole ? NONE : text.length;
        }

        /** Whether a house can still be told of, when this byte comes behind those before. */
        private boolean take(int b) {
            switch (awaited) {
                case AT_H: return takeH(b);
                case AT_R: return takeR(b);
                case AT_NAME: return takeSound(b);
                case AT_BEAR: return takeBear(b);
                case AT_KNOWER: return takeKnower(b);
                case AT_KNOWN: return takeKnown(b);
                default: return takePart(b);
            }
        }

        private boolean takeH(int b) {
            awaited = AT_R;
            return b == 'H';
        }

        private boolean takeR(int b) {
            awaited = AT_PART;
            r = b - '0';
            return r >= 0 && r <= MOST_R;
        }

        private boolean takePart(int b) {
            switch (b) {
                case 'N':
                    awaited = AT_NAME;
                    name = NO_NAME;
                    sounds = 0;
                    return things < MOST_THINGS;
                case 'P':
                    awaited = AT_BEAR;
                    return people < MOST_PEOPLE;
                case 'K':
                    awaited = AT_KNOWER;
                    return pairs < things * people;
                default:
                    return false;
            }
        }

        private boolean takeSound(int b) {
            int sound = b - 'a';
            if (sound < 0 || sound >= KINDS_OF_SOUND) {
                return endName() && takePart(b);
            }
            name = Name.withSound(name, sounds, sound);
            sounds++;
            return sounds < MOST_SOUNDS || endName();
        }

        /** A name that is like another one shows only here: till now it could have become a longer one. */
        private boolean endName() {
            if (sounds == 0 || things < 0 || things >= MOST_THINGS || isTold(name)) {
                return false;
            }
            names[things] = name;
            knowers[things] = 0;
            things++;
            awaited = AT_PART;
            return true;
        }

        private boolean isTold(int what) {
            for (int thing = 0; thing < things && thing < MOST_THINGS; thing++) {
                if (names[thing] == what) {
                    return true;
                }
            }
            return false;
        }

        private boolean takeBear(int b) {
            int bear = b - '0';
            if (bear < 1 || bear > MOST_BEAR || people < 0 || people >= MOST_PEOPLE) {
                return false;
            }
            bears[people] = bear;
            people++;
            awaited = AT_PART;
            return true;
        }

        private boolean takeKnower(int b) {
            knower = b - '0';
            awaited = AT_KNOWN;
            return knower >= 0 && knower < people && canLearn(knower);
        }

        private boolean takeKnown(int b) {
            int thing = b - '0';
            if (thing < 0 || thing >= things || thing >= MOST_THINGS || has(knowers[thing], knower)) {
                return false;
            }
            knowers[thing] |= 1 << knower;
            pairs++;
            awaited = AT_PART;
            return true;
        }

        private boolean canLearn(int person) {
            for (int thing = 0; thing < things && thing < MOST_THINGS; thing++) {
                if (!has(knowers[thing], person)) {
                    return true;
                }
            }
            return false;
        }
    }

    /** What of a house no day changes. */
    private static final class House {
        final int[] bears = new int[MOST_PEOPLE];
        int r;
        int things;
        int people;

        void settle(Telling told) {
            r = told.r;
            things = told.things;
            people = told.people;
            for (int person = 0; person < MOST_PEOPLE; person++) {
                bears[person] = person < people ? told.bears[person] : 0;
            }
        }

        boolean hasThing(int thing) {
            return thing >= 0 && thing < things && thing < MOST_THINGS;
        }

        boolean hasPerson(int person) {
            return person >= 0 && person < people && person < MOST_PEOPLE;
        }

        boolean areThings(int bits) {
            return bits >= 0 && bits < 1 << things;
        }

        boolean arePeople(int bits) {
            return bits >= 0 && bits < 1 << people;
        }
    }

    /** Names (none where there is no thing), when they were said, who knows them, and the day: what a slot keeps. */
    private static final class Memory {
        final int[] names = new int[MOST_THINGS];
        final int[] said = new int[MOST_THINGS];
        final int[] knowers = new int[MOST_THINGS];
        int day;
        boolean filled;

        void begin(Telling told) {
            day = 0;
            for (int thing = 0; thing < MOST_THINGS; thing++) {
                boolean isTold = thing < told.things;
                names[thing] = isTold ? told.names[thing] : NO_NAME;
                said[thing] = 0;
                knowers[thing] = isTold ? told.knowers[thing] : 0;
            }
        }

        void copy(Memory other) {
            day = other.day;
            for (int thing = 0; thing < MOST_THINGS; thing++) {
                names[thing] = other.names[thing];
                said[thing] = other.said[thing];
                knowers[thing] = other.knowers[thing];
            }
        }

        boolean isLive(int thing) {
            return thing >= 0 && thing < MOST_THINGS && names[thing] != NO_NAME && day - said[thing] <= LIVE_DAYS;
        }

        int liveOnes() {
            int live = 0;
            for (int thing = 0; thing < MOST_THINGS; thing++) {
                if (isLive(thing)) {
                    live |= 1 << thing;
                }
            }
            return live;
        }

        int pass(int n) {
            int before = liveOnes();
            day += n;
            int faded = before & ~liveOnes();
            for (int thing = 0; thing < MOST_THINGS; thing++) {
                if (has(faded, thing)) {
                    knowers[thing] = 0;
                }
            }
            return faded;
        }

        /** Fewest sayings come when each one waits for the last day on which the name is live. */
        int sayingsFor(int things, int d) {
            int sayings = 0;
            for (int thing = 0; thing < MOST_THINGS; thing++) {
                int lacking = day + d - said[thing] - LIVE_DAYS;
                if (has(things, thing) && lacking > 0) {
                    sayings += (lacking + LIVE_DAYS - 1) / LIVE_DAYS;
                }
            }
            return sayings;
        }
    }

    /** Tells how far the starts of some name are from one name: a row for each count of sounds taken so far. */
    private static final class Ruler {
        private final int[][] rows = new int[MOST_SOUNDS + 1][MOST_SOUNDS + 1];
        private int name;
        private int length;

        int between(int one, int other) {
            lay(other);
            int sounds = Name.lengthOf(one);
            for (int taken = 0; taken < sounds; taken++) {
                step(taken, Name.soundAt(one, taken));
            }
            return sounds <= MOST_SOUNDS && length <= MOST_SOUNDS ? rows[sounds][length] : 0;
        }

        void lay(int other) {
            name = other;
            length = Name.lengthOf(other);
            for (int j = 0; j <= MOST_SOUNDS; j++) {
                rows[0][j] = j;
            }
        }

        void step(int taken, int sound) {
            if (taken < 0 || taken >= MOST_SOUNDS) {
                return;
            }
            int[] from = rows[taken];
            int[] to = rows[taken + 1];
            to[0] = from[0] + 1;
            for (int j = 1; j <= length && j <= MOST_SOUNDS; j++) {
                int changed = from[j - 1] + (Name.soundAt(name, j - 1) == sound ? 0 : 1);
                to[j] = Math.min(changed, Math.min(from[j], to[j - 1]) + 1);
            }
        }

        /** By how much, at most, a name is off that has some sounds more behind those taken; just that, if none. */
        int atMost(int taken, int more) {
            if (taken < 0 || taken > MOST_SOUNDS) {
                return 0;
            }
            int[] row = rows[taken];
            int least = row[0] + Math.max(more, length);
            for (int j = 1; j <= length && j <= MOST_SOUNDS; j++) {
                least = Math.min(least, row[j] + Math.max(more, length - j));
            }
            return least;
        }
    }

    /** Looks for the shortest name, of like ones the first, that is far enough from some names. */
    private static final class Search {
        private final Ruler[] rulers;
        private final int[] sounds = new int[MOST_SOUNDS];
        private int others;

        Search() {
            rulers = new Ruler[MOST_THINGS];
            for (int i = 0; i < MOST_THINGS; i++) {
                rulers[i] = new Ruler();
            }
        }

        void begin() {
            others = 0;
        }

        void avoid(int name) {
            Ruler ruler = rulerAt(others);
            if (ruler != null) {
                ruler.lay(name);
                others++;
            }
        }

        private Ruler rulerAt(int i) {
            return i >= 0 && i < MOST_THINGS ? rulers[i] : null;
        }

        int shortest(int r) {
            for (int length = 1; length <= MOST_SOUNDS; length++) {
                if (find(length, r)) {
                    return found(length);
                }
            }
            return NO_NAME;
        }

        /** Tries sound behind sound, and goes back where all that could come behind is too near. */
        private boolean find(int length, int r) {
            if (isHopeless(length, r)) {
                return false;
            }
            int at = 0;
            sounds[0] = 0;
            for (int step = 0; step < MOST_STEPS && at >= 0 && at < length && at < MOST_SOUNDS; step++) {
                if (sounds[at] >= KINDS_OF_SOUND) {
                    at--;
                    if (at >= 0) {
                        sounds[at]++;
                    }
                } else if (isTooNear(at, sounds[at], length, r)) {
                    sounds[at]++;
                } else {
                    at++;
                    if (at < length && at < MOST_SOUNDS) {
                        sounds[at] = 0;
                    }
                }
            }
            return at == length;
        }

        /** Whether, whatever sounds it has, a name of this length is too near to one of the others. */
        private boolean isHopeless(int length, int r) {
            for (int i = 0; i < others; i++) {
                Ruler ruler = rulerAt(i);
                if (ruler != null && ruler.atMost(0, length) <= r) {
                    return true;
                }
            }
            return false;
        }

        private boolean isTooNear(int at, int sound, int length, int r) {
            for (int i = 0; i < others; i++) {
                Ruler ruler = rulerAt(i);
                if (ruler != null) {
                    ruler.step(at, sound);
                    if (ruler.atMost(at + 1, length - at - 1) <= r) {
                        return true;
                    }
                }
            }
            return false;
        }

        private int found(int length) {
            int name = NO_NAME;
            for (int i = 0; i < length && i < MOST_SOUNDS; i++) {
                name = Name.withSound(name, i, sounds[i]);
            }
            return name;
        }
    }

    /**
     * Who lifts what, and for each set of things the loads that it takes. The people stand in a row, the last one
     * first, and behind the first one the row begins anew for the next time. Of all ways to lay a set into loads
     * along the row that one is held that ends soonest, and there with the least weight: whatever comes to it,
     * no other way does better. So the length of the row tells both how many times a set takes, and which
     * of the people (from what one on to the last) can carry it at one time.
     */
    private static final class Carriers {
        final int[] lifted = new int[MOST_PEOPLE];
        final int[] bears = new int[MOST_PEOPLE];
        final int[] weights = new int[MOST_THINGS];
        private final int[] loads = new int[SETS];
        private final int[] lastWeight = new int[SETS];

        int allLifted() {
            int all = 0;
            for (int person = 0; person < MOST_PEOPLE; person++) {
                all |= lifted[person];
            }
            return all;
        }

        void pack(int things) {
            loads[0] = 0;
            lastWeight[0] = 0;
            for (int set = 1; set <= things && set < SETS; set++) {
                if ((set & ~things) == 0) {
                    loads[set] = NONE;
                    packSet(set);
                }
            }
        }

        private void packSet(int set) {
            if (!isSet(set)) {
                return;
            }
            for (int thing = 0; thing < MOST_THINGS; thing++) {
                if (has(set, thing) && loads[set ^ 1 << thing] != NONE) {
                    putLast(set, thing);
                }
            }
        }

        /** The thing comes to all the others of the set: into the last of their loads, or into the next that can be. */
        private void putLast(int set, int thing) {
            if (!isSet(set) || thing < 0 || thing >= MOST_THINGS || !has(set, thing)) {
                return;
            }
            int rest = set ^ 1 << thing;
            int opened = loads[rest];
            int weight = lastWeight[rest] + weights[thing];
            if (opened > 0 && canTake(opened, thing, weight)) {
                holdBetter(set, opened, weight);
                return;
            }
            for (int more = 1; more <= MOST_PEOPLE; more++) {
                if (canTake(opened + more, thing, weights[thing])) {
                    holdBetter(set, opened + more, weights[thing]);
                    return;
                }
            }
        }

        private void holdBetter(int set, int opened, int weight) {
            if (!isSet(set)) {
                return;
            }
            if (loads[set] == NONE || opened < loads[set] || opened == loads[set] && weight < lastWeight[set]) {
                loads[set] = opened;
                lastWeight[set] = weight;
            }
        }

        private boolean canTake(int load, int thing, int weight) {
            int person = MOST_PEOPLE - 1 - (load - 1) % MOST_PEOPLE;
            return person >= 0 && person < MOST_PEOPLE && has(lifted[person], thing) && weight <= bears[person];
        }

        int timesFor(int things) {
            if (!isSet(things) || loads[things] == NONE) {
                return NONE;
            }
            return (loads[things] + MOST_PEOPLE - 1) / MOST_PEOPLE;
        }

        int firstWay(int person, int things) {
            int rest = things;
            int load = 0;
            for (int one = 0; one <= person && one < MOST_PEOPLE; one++) {
                load = leastLoad(one, rest);
                rest &= ~load;
            }
            return load;
        }

        /** The least load for a person that leaves what those behind it can carry. */
        private int leastLoad(int person, int rest) {
            int behind = MOST_PEOPLE - 1 - person;
            for (int load = 0; load <= rest && isSet(rest); load++) {
                if ((load & ~rest) == 0 && loads[rest ^ load] != NONE && loads[rest ^ load] <= behind
                        && bearsLoad(person, load)) {
                    return load;
                }
            }
            return 0;
        }

        private boolean bearsLoad(int person, int load) {
            if (person < 0 || person >= MOST_PEOPLE || (load & ~lifted[person]) != 0) {
                return false;
            }
            int weight = 0;
            for (int thing = 0; thing < MOST_THINGS; thing++) {
                if (has(load, thing)) {
                    weight += weights[thing];
                }
            }
            return weight <= bears[person];
        }
    }

    /** Lines of songs, and in how many ways the names of an old house fit to its things. */
    private static final class Songs {
        int lines;
        private final int[] lineNames = new int[MOST_LINES];
        private final int[] lineThings = new int[MOST_LINES];
        private final int[] canBe = new int[MOST_THINGS];
        private final int[] fits = new int[SETS];

        void sing(int name, int things) {
            if (lines >= 0 && lines < MOST_LINES) {
                lineNames[lines] = name;
                lineThings[lines] = things;
                lines++;
            }
        }

        int waysWith(int n, int firstLines) {
            hear(n, firstLines);
            return fit(n);
        }

        int thingsOf(int n, int name) {
            if (n < 1 || n > MOST_THINGS || name < 0 || name >= n) {
                return 0;
            }
            hear(n, lines);
            // The name comes last, so that all the others have their things already.
            int own = canBe[name];
            canBe[name] = canBe[n - 1];
            canBe[n - 1] = own;
            fit(n);
            int all = (1 << n) - 1;
            int found = 0;
            for (int thing = 0; thing < n; thing++) {
                if (has(own, thing) && fits[all ^ 1 << thing] > 0) {
                    found |= 1 << thing;
                }
            }
            return found;
        }

        int firstBreak(int n) {
            for (int line = 0; line < lines; line++) {
                if (waysWith(n, line + 1) == 0) {
                    return line;
                }
            }
            return NONE;
        }

        /** Of which things each name is by itself, as the first lines have it. */
        private void hear(int n, int firstLines) {
            for (int name = 0; name < n && name < MOST_THINGS; name++) {
                canBe[name] = (1 << n) - 1;
            }
            for (int line = 0; line < firstLines && line < MOST_LINES; line++) {
                int name = lineNames[line];
                if (name >= 0 && name < n && name < MOST_THINGS) {
                    canBe[name] &= lineThings[line];
                }
            }
        }

        /** In how many ways the first names can be given to each set of as many things. */
        private int fit(int n) {
            if (n < 1 || n > MOST_THINGS) {
                return 0;
            }
            int all = (1 << n) - 1;
            for (int set = 1; set <= all; set++) {
                fits[set] = 0;
            }
            fits[0] = 1;
            for (int set = 0; set < all; set++) {
                if (fits[set] > 0) {
                    giveNext(n, set);
                }
            }
            return fits[all];
        }

        private void giveNext(int n, int set) {
            int name = Integer.bitCount(set);
            if (!isSet(set) || name >= MOST_THINGS) {
                return;
            }
            for (int thing = 0; thing < n && thing < MOST_THINGS; thing++) {
                if (has(canBe[name], thing) && !has(set, thing)) {
                    fits[set | 1 << thing] += fits[set];
                }
            }
        }
    }
}
