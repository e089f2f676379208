import java.lang.management.ManagementFactory;
import java.lang.reflect.Constructor;
import java.lang.reflect.Field;
import java.lang.reflect.Method;
import java.lang.reflect.Modifier;
import java.nio.file.Files;
import java.nio.file.Path;
import java.util.Arrays;
import java.util.List;
import java.util.Set;
import java.util.TreeSet;
import java.util.regex.Matcher;
import java.util.regex.Pattern;

/** What of ../shared/LANGUAGE.md can be seen from outside or in the text of the class, and the face of the document. */
public final class LanguageTest {
    private static final Due due = new Due("LanguageTest");
    private static final Set<String> FACE = new TreeSet<>(List.of(
        "write(int,long)", "wipe()", "fault()", "house()", "sound(int,int)", "off(int,int)", "near(int)", "knows(int)",
        "live()", "days(int)", "fades(int)", "say(int,int,int)", "give(int,int,int)", "fresh(int)", "anew(int,int)",
        "lifts(int)", "stands(int,int)", "carries(int,int)", "times(int)", "worth(int)", "upkeep(int,int)",
        "mayHave(int)", "line(int,int)", "silence()", "ways(int)", "mayBe(int,int)", "breaks(int)", "twins(int)",
        "keep(int)", "again(int)", "count(int)"));
    private static final String LIBRARY = "(Integer|Long|Math)\\.(?!\\w*Exact\\b)\\w+|System\\.arraycopy|"
        + "Arrays\\.(copyOf|copyOfRange|fill)|List\\.of";

    public static void main(String[] args) throws Exception {
        constants();
        face();
        classesInside();
        words(Files.readString(Path.of("src/main/java/OnlyNamed.java")));
        littleIsMade();
        due.end();
    }

    private static void constants() {
        due.is("UNKNOWN", OnlyNamed.UNKNOWN, -1);
        due.is("OUTSIDE", OnlyNamed.OUTSIDE, -2);
        due.is("STATE", OnlyNamed.STATE, -3);
        due.is("FULL", OnlyNamed.FULL, -4);
        due.is("NONE", OnlyNamed.NONE, -9);
    }

    private static void face() {
        Set<String> open = new TreeSet<>();
        for (Method m : OnlyNamed.class.getDeclaredMethods()) {
            if (Modifier.isPublic(m.getModifiers())) {
                due.same("type of " + m.getName(), m.getReturnType().getName(), "int");
                open.add(m.getName() + Arrays.toString(m.getParameterTypes()).replace('[', '(').replace(']', ')').replace(" ", ""));
            } else {
                due.is("private: " + m.getName(), Modifier.isPrivate(m.getModifiers()) ? 1 : 0, 1);
            }
        }
        due.same("public methods", open.toString(), FACE.toString());
        Set<String> constants = new TreeSet<>();
        for (Field f : OnlyNamed.class.getDeclaredFields()) {
            if (Modifier.isPublic(f.getModifiers())) {
                constants.add(f.getName());
            } else {
                due.is("private: " + f.getName(), Modifier.isPrivate(f.getModifiers()) ? 1 : 0, 1);
            }
        }
        due.same("public constants", constants.toString(), "[FULL, NONE, OUTSIDE, STATE, UNKNOWN]");
        Constructor<?>[] all = OnlyNamed.class.getDeclaredConstructors();
        due.is("constructors", all.length, 1);
        due.is("the constructor is public, without arguments", Modifier.isPublic(all[0].getModifiers()) ? all[0].getParameterCount() : -1, 0);
        due.is("public and final", OnlyNamed.class.getModifiers() & (Modifier.PUBLIC | Modifier.FINAL), Modifier.PUBLIC | Modifier.FINAL);
    }

    private static void classesInside() {
        Class<?>[] inside = OnlyNamed.class.getDeclaredClasses();
        due.is("some twelve classes at most", inside.length <= 11 ? 1 : 0, 1);
        for (Class<?> c : inside) {
            int m = c.getModifiers();
            due.is(c.getName() + " is static, not public", Modifier.isStatic(m) && !Modifier.isPublic(m) && !Modifier.isProtected(m) ? 1 : 0, 1);
            for (Method method : c.getDeclaredMethods()) {
                due.is("no name of a public method: " + c.getName() + "." + method.getName(),
                    FACE.stream().anyMatch(f -> f.startsWith(method.getName() + "(")) ? 1 : 0, 0);
                due.is("seven parameters at most: " + method.getName(), method.getParameterCount() <= 7 ? 1 : 0, 1);
            }
            for (Field f : c.getDeclaredFields()) {
                due.is("static fields are final: " + f.getName(), Modifier.isStatic(f.getModifiers()) && !Modifier.isFinal(f.getModifiers()) ? 1 : 0, 0);
            }
        }
    }

    /** Rules 3, 4, 5, 6, 11, 13: words and calls of the library that may not stand in the file. */
    private static void words(String source) {
        String code = source.replaceAll("(?s)/\\*.*?\\*/", "").replaceAll("//[^\n]*", "").replaceAll("'.'", "0");
        for (String word : List.of("throw", "throws", "try", "catch", "finally", "synchronized", "assert", "package", "Object",
                "hashCode", "toString", "Random", "Thread", "volatile", "native", "protected")) {
            due.is("no " + word, Pattern.compile("\\b" + word + "\\b").matcher(code).find() ? 1 : 0, 0);
        }
        for (String sign : List.of("->", "::", "@")) {
            due.is("no " + sign, code.contains(sign) ? 1 : 0, 0);
        }
        Matcher imports = Pattern.compile("\\bimport\\s+([^;]*);").matcher(code);
        while (imports.find()) {
            due.is("import " + imports.group(1), imports.group(1).matches("java\\.util\\.(ArrayList|List|Arrays|Iterator)") ? 1 : 0, 1);
        }
        Matcher library = Pattern.compile("\\b([A-Z][a-z]\\w*)\\.(\\w+)").matcher(code);
        while (library.find()) {
            boolean own = Pattern.compile("\\b(class|record|enum|interface) " + library.group(1) + "\\b").matcher(code).find();
            due.is(library.group() + " may stand", own || library.group().matches(LIBRARY) ? 1 : 0, 1);
        }
        int lines = 0;
        for (String row : source.split("\n")) {
            due.is("signs 1 to 127: " + row, row.chars().allMatch(c -> c > 0 && c < 128) ? 1 : 0, 1);
            lines = row.matches(" {4,8}\\S.*\\{") ? 0 : lines + 1;
            due.is("methods stay short: " + row, row.matches(" {4,8}\\}") && lines > 60 ? 1 : 0, 0);
        }
    }

    /** All calls of a run live in one room of some 600,000 objects, and none is smaller than 16 bytes. */
    private static void littleIsMade() {
        com.sun.management.ThreadMXBean bean = (com.sun.management.ThreadMXBean) ManagementFactory.getThreadMXBean();
        String house = "H1NabNcdNefNaceNbdfP3P4P5K00K01K02K10K13K14K20K24";
        OnlyNamed x = Due.houseOf(house);
        manyCalls(Due.houseOf(house));
        long before = bean.getCurrentThreadAllocatedBytes();
        int calls = manyCalls(x);
        long made = bean.getCurrentThreadAllocatedBytes() - before;
        due.is("512 calls may make 9,600,000 bytes; " + calls + " made " + made, made * 512 / calls <= 9_600_000 ? 1 : 0, 1);
    }

    private static int manyCalls(OnlyNamed x) {
        int sum = 0;
        for (int i = 0; i < 8; i++) {
            sum += x.wipe() + x.write(8, 5201743749446782563L) + x.write(2, 18484) + x.fault() + x.sound(i, 0) + x.off(i, 0);
            sum += x.near(i) + x.knows(i) + x.live() + x.days(1) + x.fades(i) + x.say(0, i, 7) + x.give(i, 1, 0) + x.fresh(i);
            sum += x.lifts(i) + x.stands(0, 31) + x.carries(1, i) + x.times(31) + x.worth(i) + x.upkeep(31, 40) + x.mayHave(i);
            sum += x.line(i, 127) + x.ways(8) + x.mayBe(8, i) + x.breaks(8) + x.twins(1) + x.keep(0) + x.again(0) + x.count(i);
        }
        x.days(20);
        return sum + x.anew(0, 0) + x.silence() + x.house() == 0 ? 0 : 8 * 29 + 4;
    }
}
