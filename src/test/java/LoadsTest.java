import java.util.LinkedHashSet;
import java.util.Random;
import java.util.Set;

/** Promises 19 to 21 in houses where many know many heavy things, by fixed seeds, against the plain model. */
public final class LoadsTest {
    private static final Due due = new Due("LoadsTest");

    private final Random random;
    private final OnlyNamed x = new OnlyNamed();
    private final PlainModel m = new PlainModel();
    private final int things;
    private final int people;
    private final String house;

    private LoadsTest(long seed) {
        random = new Random(seed);
        things = 5 + random.nextInt(4);
        people = 1 + random.nextInt(6);
        house = houseText();
        for (char c : house.toCharArray()) {
            x.write(1, c);
            m.write(1, c);
        }
        due.is("house of " + house, x.house(), m.house());
    }

    public static void main(String[] args) {
        for (int seed = 0; seed < 400; seed++) {
            LoadsTest test = new LoadsTest(seed);
            test.tellOthers();
            test.compare();
        }
        due.end();
    }

    private String houseText() {
        Set<String> names = new LinkedHashSet<>();
        while (names.size() < things) {
            StringBuilder name = new StringBuilder();
            for (int length = 1 + random.nextInt(5); length > 0; length--) {
                name.append((char) ('a' + random.nextInt(6)));
            }
            names.add(name.toString());
        }
        StringBuilder text = new StringBuilder("H0N").append(String.join("N", names));
        for (int person = 0; person < people; person++) {
            text.append('P').append(3 + random.nextInt(7));
        }
        for (int thing = 0; thing < things && text.length() <= 93; thing++) {
            text.append('K').append(random.nextInt(people)).append(thing);
        }
        return text.toString();
    }

    private void tellOthers() {
        int density = random.nextInt(3);
        for (int thing = 0; thing < things; thing++) {
            for (int person = 0; person < people; person++) {
                int hearers = random.nextInt(1 << people);
                if (density > 0) {
                    hearers |= random.nextInt(1 << people);
                }
                if (density > 1) {
                    hearers = (1 << people) - 1;
                }
                due.is("say in " + house, x.say(person, thing, hearers), m.say(person, thing, hearers));
            }
        }
    }

    private void compare() {
        for (int tries = 0; tries < 25; tries++) {
            int set = tries == 0 ? (1 << things) - 1 : random.nextInt(1 << things) | random.nextInt(1 << things);
            due.is("times(" + set + ") of " + house, x.times(set), m.times(set));
            for (int person = 0; person < people; person++) {
                due.is("carries(" + person + ", " + set + ") of " + house, x.carries(person, set), m.carries(person, set));
            }
        }
        for (int person = 0; person < people; person++) {
            due.is("worth(" + person + ") of " + house, x.worth(person), m.worth(person));
        }
    }
}
