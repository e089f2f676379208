import java.lang.management.ManagementFactory;
import java.lang.reflect.Constructor;
import java.lang.reflect.Field;
import java.lang.reflect.Method;
import java.lang.reflect.Modifier;
import java.nio.file.Files;
import java.nio.file.Path;
import java.util.Arrays;
import java.util.List;
import java.util.Set;
import java.util.TreeSet;
import java.util.regex.Matcher;
import java.util.regex.Pattern;

/** What of ../shared/LANGUAGE.md can be seen from outside or in the text of the class, and the face of the document. */
public final class LanguageTest {
    private static final Due due = new Due("LanguageTest");
    private static final Set<String> FACE = new TreeSet<>(List.of(
        "write(int,long)", "wipe()", "fault()", "house()", "sound(int,int)", "off(int,int)", "near(int)", "knows(int)",
        "live()", "days(int)", "fades(int)", "say(int,int,int)", "give(int,int,int)", "fresh(int)", "anew(int,int)",
        "lifts(int)", "stands(int,int)", "carries(int,int)", "times(int)", "worth(int)", "upkeep(int,int)",
        "mayHave(int)", "line(int,int)", "silence()", "ways(int)", "mayBe(int,int)", "breaks(int)", "twins(int)",
        "keep(int)", "again(int)", "count(int)"));

    public static void main(String[] args) throws Exception {
        constants();
        face();
        classesInside();
        words(Files.readString(Path.of("src/main/java/OnlyNamed.java")));
        noCallMakesAnything();
        due.end();
    }

    private static void constants() {
        due.is("UNKNOWN", OnlyNamed.UNKNOWN, -1);
        due.is("OUTSIDE", OnlyNamed.OUTSIDE, -2);
        due.is("STATE", OnlyNamed.STATE, -3);
        due.is("FULL", OnlyNamed.FULL, -4);
        due.is("NONE", OnlyNamed.NONE, -9);
    }

    private static void face() {
        Set<String> open = new TreeSet<>();
        for (Method m : OnlyNamed.class.getDeclaredMethods()) {
            if (Modifier.isPublic(m.getModifiers())) {
                due.same("type of " + m.getName(), m.getReturnType().getName(), "int");
                open.add(m.getName() + Arrays.toString(m.getParameterTypes()).replace('[', '(').replace(']', ')').replace(" ", ""));
            } else {
                due.is("private: " + m.getName(), Modifier.isPrivate(m.getModifiers()) ? 1 : 0, 1);
            }
        }
        due.same("public methods", open.toString(), FACE.toString());
        Set<String> constants = new TreeSet<>();
        for (Field f : OnlyNamed.class.getDeclaredFields()) {
            if (Modifier.isPublic(f.getModifiers())) {
                constants.add(f.getName());
            } else {
                due.is("private: " + f.getName(), Modifier.isPrivate(f.getModifiers()) ? 1 : 0, 1);
            }
        }
        due.same("public constants", constants.toString(), "[FULL, NONE, OUTSIDE, STATE, UNKNOWN]");
        Constructor<?>[] all = OnlyNamed.class.getDeclaredConstructors();
        due.is("constructors", all.length, 1);
        due.is("the constructor is public, without arguments", Modifier.isPublic(all[0].getModifiers()) ? all[0].getParameterCount() : -1, 0);
        due.is("public and final", OnlyNamed.class.getModifiers() & (Modifier.PUBLIC | Modifier.FINAL), Modifier.PUBLIC | Modifier.FINAL);
    }

    private static void classesInside() {
        Class<?>[] inside = OnlyNamed.class.getDeclaredClasses();
        due.is("some twelve classes at most", inside.length <= 11 ? 1 : 0, 1);
        for (Class<?> c : inside) {
            int m = c.getModifiers();
            due.is(c.getName() + " is static, not public", Modifier.isStatic(m) && !Modifier.isPublic(m) && !Modifier.isProtected(m) ? 1 : 0, 1);
            for (Method method : c.getDeclaredMethods()) {
                due.is("no name of a public method: " + c.getName() + "." + method.getName(),
                    FACE.stream().anyMatch(f -> f.startsWith(method.getName() + "(")) ? 1 : 0, 0);
                due.is("seven parameters at most: " + method.getName(), method.getParameterCount() <= 7 ? 1 : 0, 1);
            }
            for (Field f : c.getDeclaredFields()) {
                due.is("static fields are final: " + f.getName(), Modifier.isStatic(f.getModifiers()) && !Modifier.isFinal(f.getModifiers()) ? 1 : 0, 0);
            }
        }
    }

    private static void words(String source) {
        String code = source.replaceAll("(?s)/\\*.*?\\*/", "").replaceAll("//[^\n]*", "").replaceAll("'.'", "0");
        for (String word : List.of("throw", "throws", "try", "catch", "finally", "synchronized", "assert", "import", "package",
                "Object", "Random", "System", "Thread", "instanceof", "float", "double", "String", "equals", "hashCode")) {
            due.is("no " + word, Pattern.compile("\\b" + word + "\\b").matcher(code).find() ? 1 : 0, 0);
        }
        for (String sign : List.of("->", "::", "@", "\"")) {
            due.is("no " + sign, code.contains(sign) ? 1 : 0, 0);
        }
        Matcher library = Pattern.compile("\\b([A-Z][a-z]\\w*)\\.(\\w+)").matcher(code);
        Set<String> used = new TreeSet<>();
        while (library.find()) {
            if (!code.contains("class " + library.group(1) + " ")) {
                used.add(library.group());
            }
        }
        due.same("of the library", used.toString(), "[Integer.bitCount, Math.max, Math.min]");
        int lines = 0;
        for (String row : source.split("\n")) {
            due.is("signs 1 to 127: " + row, row.chars().allMatch(c -> c > 0 && c < 128) ? 1 : 0, 1);
            lines = row.matches(" {4,8}\\S.*\\{") ? 0 : lines + 1;
            due.is("methods stay short: " + row, row.matches(" {4,8}\\}") && lines > 60 ? 1 : 0, 0);
        }
    }

    /** All rows are made with the object: a run of calls makes no object and no array. */
    private static void noCallMakesAnything() {
        com.sun.management.ThreadMXBean bean = (com.sun.management.ThreadMXBean) ManagementFactory.getThreadMXBean();
        OnlyNamed x = Due.houseOf("H1NabNcdNefNaceNbdfP3P4P5K00K01K02K10K13K14K20K24");
        manyCalls(x);
        long idle = bean.getCurrentThreadAllocatedBytes();
        idle = bean.getCurrentThreadAllocatedBytes() - idle;
        long before = bean.getCurrentThreadAllocatedBytes();
        int calls = manyCalls(x);
        long made = bean.getCurrentThreadAllocatedBytes() - before - idle;
        due.is("bytes made by " + calls + " calls", made, 0);
    }

    private static int manyCalls(OnlyNamed x) {
        int sum = 0;
        for (int i = 0; i < 8; i++) {
            sum += x.wipe() + x.write(8, 5201743749446782563L) + x.write(2, 18484) + x.fault() + x.sound(i, 0) + x.off(i, 0);
            sum += x.near(i) + x.knows(i) + x.live() + x.days(1) + x.fades(i) + x.say(0, i, 7) + x.give(i, 1, 0) + x.fresh(i);
            sum += x.lifts(i) + x.stands(0, 31) + x.carries(1, i) + x.times(31) + x.worth(i) + x.upkeep(31, 40) + x.mayHave(i);
            sum += x.line(i, 127) + x.ways(8) + x.mayBe(8, i) + x.breaks(8) + x.twins(1) + x.keep(0) + x.again(0) + x.count(i);
        }
        x.days(20);
        return sum + x.anew(0, 0) + x.silence() + x.house() == 0 ? 0 : 8 * 29 + 4;
    }
}
