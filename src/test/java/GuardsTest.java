import java.lang.reflect.Field;
import java.lang.reflect.InvocationTargetException;
import java.lang.reflect.Method;
import java.lang.reflect.Modifier;
import java.util.ArrayList;
import java.util.Arrays;
import java.util.List;

/**
 * Rules 7 and 9 of LANGUAGE.md for each method by itself: whatever numbers it is called with, also those that no call
 * of the face hands on to it, it throws nothing and ends.
 */
public final class GuardsTest {
    private static final Due due = new Due("GuardsTest");
    private static volatile String called = "";
    private static final int[] NUMBERS = {
        Integer.MIN_VALUE, -257, -9, -1, 0, 1, 3, 5, 6, 7, 8, 9, 15, 16, 31, 96, 97, 255, 256, 1 << 20, Integer.MAX_VALUE};
    private static final int[] FEWER = {Integer.MIN_VALUE, -1, 0, 1, 4, 6, 8, 16, 255, 256, Integer.MAX_VALUE};
    private static final String[] HOUSES = {
        "H0", "H3NabcdeNfedcbP9K00", "H1NabNcdNefNaceNbdfNacaNdcdNfffffP1P2P3P4P5P9K00K01K02K10K13K14K20K24K57K56K36"};

    public static void main(String[] args) throws Exception {
        watch();
        for (String house : HOUSES) {
            for (Object part : partsOf(busy(house))) {
                for (Method method : part.getClass().getDeclaredMethods()) {
                    if (!method.isSynthetic()) {
                        callWithAll(house, part.getClass(), method);
                    }
                }
            }
        }
        for (Class<?> inside : OnlyNamed.class.getDeclaredClasses()) {
            for (Method method : inside.getDeclaredMethods()) {
                if (Modifier.isStatic(method.getModifiers()) && !method.isSynthetic()) {
                    callWithAll("H0", inside, method);
                }
            }
        }
        due.end();
    }

    /** All the calls take a few seconds: one that has no end would hold up all other tests. */
    private static void watch() {
        Thread watcher = new Thread(() -> {
            try {
                Thread.sleep(120_000);
            } catch (InterruptedException e) {
                return;
            }
            System.out.println("GuardsTest: a call does not end: " + called);
            Runtime.getRuntime().halt(1);
        });
        watcher.setDaemon(true);
        watcher.start();
    }

    /** An object that has a house, a load, lines and slots. */
    private static OnlyNamed busy(String house) {
        OnlyNamed x = Due.houseOf(house);
        x.line(0, 3);
        x.line(7, 255);
        x.keep(1);
        x.times((1 << x.count(1)) - 1);
        x.mayBe(8, 2);
        return x;
    }

    /** The object, what it holds of its own classes, and what those hold. */
    private static List<Object> partsOf(OnlyNamed x) throws Exception {
        List<Object> parts = new ArrayList<>();
        parts.add(x);
        for (Field field : OnlyNamed.class.getDeclaredFields()) {
            if (!Modifier.isStatic(field.getModifiers()) && !field.getType().isArray()) {
                field.setAccessible(true);
                parts.add(field.get(x));
            }
        }
        return parts;
    }

    private static Object partOf(OnlyNamed x, Class<?> type) throws Exception {
        for (Object part : partsOf(x)) {
            if (part.getClass() == type) {
                return part;
            }
        }
        return null;
    }

    private static void callWithAll(String house, Class<?> type, Method method) throws Exception {
        method.setAccessible(true);
        Class<?>[] kinds = method.getParameterTypes();
        int numbers = 0;
        for (Class<?> kind : kinds) {
            numbers += kind.isPrimitive() ? 1 : 0;
        }
        int[] some = numbers > 2 ? FEWER : NUMBERS;
        int all = 1;
        for (int i = 0; i < numbers; i++) {
            all *= some.length;
        }
        for (int which = 0; which < all; which++) {
            callWith(house, type, method, some, which);
        }
    }

    private static void callWith(String house, Class<?> type, Method method, int[] some, int which) throws Exception {
        OnlyNamed x = busy(house);
        Class<?>[] kinds = method.getParameterTypes();
        Object[] with = new Object[kinds.length];
        int left = which;
        for (int i = 0; i < kinds.length; i++) {
            if (kinds[i].isPrimitive()) {
                int number = some[left % some.length];
                left /= some.length;
                with[i] = kinds[i] == long.class ? (Object) (long) number : (Object) number;
            } else {
                with[i] = partOf(x, kinds[i]);
            }
        }
        called = house + ": " + type.getName() + "." + method.getName() + Arrays.toString(with);
        String threw = "nothing";
        try {
            method.invoke(partOf(x, type), with);
        } catch (InvocationTargetException e) {
            threw = e.getCause().toString();
        }
        due.same("what came of " + called, threw, "nothing");
    }
}
