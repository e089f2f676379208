import java.io.IOException;
import java.lang.reflect.Method;
import java.lang.reflect.Modifier;
import java.nio.file.Files;
import java.nio.file.Path;
import java.util.ArrayList;
import java.util.List;
import java.util.Set;
import java.util.TreeSet;
import java.util.regex.Matcher;
import java.util.regex.Pattern;
import java.util.stream.Stream;

/** What README.md shows is true of the class, and what it tells of each call agrees with the document. */
public final class ReadmeTest {
    private static final Due due = new Due("ReadmeTest");
    private static final String MADE = "OnlyNamed x = new OnlyNamed();";
    private static final Pattern EXAMPLE = Pattern.compile("x\\.(\\w+)\\(([^)]*)\\); +// (-?\\d+|[A-Z]+)(: .+)?");
    private static final Pattern PROMISE = Pattern.compile("## Promise (\\d+): [^\n]*\n\n`(?:int )?(\\w+)\\(([^)]*)\\)`: ([^\n]*)");
    private static final Pattern REFUSAL = Pattern.compile("\\b(UNKNOWN|OUTSIDE|STATE|FULL)\\b");

    public static void main(String[] args) throws Exception {
        String readme = Files.readString(Path.of("README.md"));
        String document = Files.readString(Path.of("../shared/DOC.md"));
        examples(readme);
        constants(readme);
        calls(readme, document);
        tests(readme);
        places(readme);
        due.end();
    }

    /** All examples are one run of calls, from the first to the last, and each call of the face is shown. */
    private static void examples(String readme) throws Exception {
        OnlyNamed x = null;
        Set<String> shown = new TreeSet<>();
        for (String row : rowsOfJava(readme)) {
            Matcher example = EXAMPLE.matcher(row);
            if (row.equals(MADE)) {
                x = new OnlyNamed();
            } else if (x != null && example.matches()) {
                shown.add(example.group(1));
                due.is("README.md: " + row, answer(x, example.group(1), example.group(2)), number(example.group(3)));
            } else {
                due.same("README.md: a row that is no example", row, "");
            }
        }
        Set<String> face = new TreeSet<>();
        for (Method method : OnlyNamed.class.getDeclaredMethods()) {
            if (Modifier.isPublic(method.getModifiers())) {
                face.add(method.getName());
            }
        }
        due.same("calls that README.md shows", shown.toString(), face.toString());
    }

    private static List<String> rowsOfJava(String readme) {
        List<String> rows = new ArrayList<>();
        Matcher block = Pattern.compile("(?s)```java\n(.*?)```").matcher(readme);
        while (block.find()) {
            rows.addAll(List.of(block.group(1).split("\n")));
        }
        return rows;
    }

    private static int answer(OnlyNamed x, String call, String arguments) throws Exception {
        String[] told = arguments.isEmpty() ? new String[0] : arguments.split(", ");
        for (Method method : OnlyNamed.class.getDeclaredMethods()) {
            if (method.getName().equals(call) && method.getParameterCount() == told.length) {
                Object[] with = new Object[told.length];
                for (int i = 0; i < told.length; i++) {
                    boolean isLong = method.getParameterTypes()[i] == long.class;
                    with[i] = isLong ? (Object) Long.decode(told[i].replace("L", "")) : (Object) Integer.decode(told[i]);
                }
                return (int) method.invoke(x, with);
            }
        }
        due.same("a call of the face", call + " with " + arguments, "");
        return 0;
    }

    private static int number(String told) throws Exception {
        return Character.isLetter(told.charAt(0)) ? OnlyNamed.class.getField(told).getInt(null) : Integer.parseInt(told);
    }

    private static void constants(String readme) throws Exception {
        for (String name : List.of("UNKNOWN", "OUTSIDE", "STATE", "FULL", "NONE")) {
            has(readme, "| `" + name + "` | " + OnlyNamed.class.getField(name).getInt(null) + " |");
        }
        due.is("the order of refusals", readme.indexOf("| `UNKNOWN`") < readme.indexOf("| `OUTSIDE`")
            && readme.indexOf("| `OUTSIDE`") < readme.indexOf("| `STATE`") && readme.indexOf("| `STATE`") < readme.indexOf("| `FULL`") ? 1 : 0, 1);
    }

    /** A row for each promise, with its own words for the arguments, its refusals, and NONE where the promise has it. */
    private static void calls(String readme, String document) {
        Matcher promise = PROMISE.matcher(document);
        int promises = 0;
        while (promise.find()) {
            promises++;
            String call = promise.group(2) + "(" + promise.group(3).replaceAll("(int|long) ", "") + ")";
            Matcher row = Pattern.compile("\\| `" + Pattern.quote(call) + "` \\| ([^|]+) \\| ([A-Z, ]*)\\|\n").matcher(readme);
            if (row.find()) {
                due.same("refusals of " + call, refusals(row.group(2)), refusals(promise.group(4)));
                due.is("NONE of " + call, row.group(1).contains("NONE") ? 1 : 0, promise.group(4).contains("NONE") ? 1 : 0);
            } else {
                due.same("README.md: a row of", call, "");
            }
        }
        due.is("promises that README.md tells of", promises, 32);
    }

    private static String refusals(String told) {
        StringBuilder found = new StringBuilder();
        Matcher refusal = REFUSAL.matcher(told);
        while (refusal.find()) {
            found.append(refusal.group()).append(' ');
        }
        return found.toString();
    }

    private static void tests(String readme) throws IOException {
        Set<String> there = new TreeSet<>();
        try (Stream<Path> files = Files.list(Path.of("src/test/java"))) {
            files.map(file -> file.getFileName().toString()).filter(name -> name.endsWith("Test.java"))
                .forEach(name -> there.add(name.replace(".java", "")));
        }
        Set<String> told = new TreeSet<>();
        Matcher row = Pattern.compile("\n\\| (\\w+Test) \\|").matcher(readme);
        while (row.find()) {
            told.add(row.group(1));
        }
        due.same("tests that README.md tells of", told.toString(), there.toString());
    }

    /** The files that README.md names are there. */
    private static void places(String readme) {
        for (String place : List.of("../shared/DOC.md", "../shared/LANGUAGE.md", "../shared/tests", "src/main/java/OnlyNamed.java",
                "src/test/java", ".ci/run")) {
            has(readme, place);
            due.is("there is " + place, Files.exists(Path.of(place)) ? 1 : 0, 1);
        }
    }

    private static void has(String readme, String words) {
        due.is("README.md has " + words, readme.contains(words) ? 1 : 0, 1);
    }
}
