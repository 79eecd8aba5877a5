import java.lang.reflect.Constructor;
import java.lang.reflect.Field;
import java.lang.reflect.Method;
import java.lang.reflect.Modifier;
import java.util.Arrays;
import java.util.Set;
import java.util.TreeSet;

/** The face of the class: the document's constants, constructor and methods, and no other member that can be seen. */
public final class FaceTest {
    private static final Check check = new Check();
    private static final String[] METHODS = {"write/1", "wipe/0", "fault/0", "lay/0", "post/2", "at/1", "add/4", "pour/3",
        "set/2", "shape/3", "undo/0", "way/3", "step/3", "through/3", "below/2", "mark/3", "turn/1", "marked/1", "nearest/1",
        "watch/3", "settle/0", "waits/1", "richest/1", "longest/1", "day/3", "keep/0", "back/0", "count/1"};

    public static void main(String[] args) throws Exception {
        constants();
        constructors();
        methods();
        nestedClasses();
        farNumbers();
        check.end();
    }

    private static void same(String what, Object got, Object want) {
        check.due(what + ": " + got + " and " + want, got.equals(want) ? 1 : 0, 1);
    }

    private static void constants() throws Exception {
        Set<String> seen = new TreeSet<>();
        for (Field field : HeavyChains.class.getDeclaredFields()) {
            if (!Modifier.isPrivate(field.getModifiers())) {
                seen.add(Modifier.toString(field.getModifiers()) + " " + field.getName() + " " + field.getInt(null));
            }
        }
        String kind = "public static final ";
        same("constants", seen, new TreeSet<>(Set.of(kind + "BAD -1", kind + "NO -2", kind + "FULL -3", kind + "NONE -4",
                kind + "EVEN 1000000")));
        same("the class", Modifier.toString(HeavyChains.class.getModifiers()), "public final");
    }

    private static void constructors() {
        Constructor<?>[] all = HeavyChains.class.getDeclaredConstructors();
        check.due("constructors", all.length, 1);
        check.due("its parameters", all[0].getParameterCount(), 0);
        check.due("it is public", all[0].getModifiers(), Modifier.PUBLIC);
    }

    private static void methods() {
        Set<String> seen = new TreeSet<>();
        Set<String> hidden = new TreeSet<>();
        for (Method method : HeavyChains.class.getDeclaredMethods()) {
            if (Modifier.isPrivate(method.getModifiers())) {
                hidden.add(method.getName());
            } else {
                seen.add(method.getName() + "/" + method.getParameterCount());
                check.due(method + " is public alone", method.getModifiers(), Modifier.PUBLIC);
                check.due(method + " answers an int", method.getReturnType() == int.class ? 1 : 0, 1);
            }
        }
        same("methods", seen, new TreeSet<>(Arrays.asList(METHODS)));
        for (String method : METHODS) {
            check.due("hidden: " + method, hidden.contains(method.split("/")[0]) ? 1 : 0, 0);
        }
    }

    private static void nestedClasses() {
        Class<?>[] nested = HeavyChains.class.getDeclaredClasses();
        check.due("twelve classes at most", nested.length < 12 ? 1 : 0, 1);
        for (Class<?> one : nested) {
            check.due(one + " is static", Modifier.isStatic(one.getModifiers()) ? 1 : 0, 1);
            check.due(one + " is not public", Modifier.isPublic(one.getModifiers()) ? 1 : 0, 0);
            check.due(one + " has few fields", one.getDeclaredFields().length <= 20 ? 1 : 0, 1);
        }
    }

    /** No call throws for any numbers: each method with far ones in every seat, in several states. */
    private static void farNumbers() throws Exception {
        int[] far = {Integer.MIN_VALUE, Integer.MIN_VALUE + 1, -1000000, -31, -5, -2, -1, 0, 1, 13, 14, 29, 30, 200, 1000000,
            Integer.MAX_VALUE - 1, Integer.MAX_VALUE};
        for (String text : new String[] {"", "p;", "p0123456789abcdefghijklmnopqrs;", "p00000000000000000000000000000;"}) {
            for (Method method : HeavyChains.class.getMethods()) {
                if (method.getDeclaringClass() == HeavyChains.class) {
                    callAll(method, far, text);
                }
            }
        }
    }

    private static void callAll(Method method, int[] far, String text) throws Exception {
        int seats = method.getParameterCount();
        HeavyChains x = new HeavyChains();
        Check.write(x, text);
        x.lay();
        int all = (int) Math.pow(far.length, seats);
        for (int n = 0; n < all; n++) {
            Object[] numbers = new Object[seats];
            int rest = n;
            for (int k = 0; k < seats; k++) {
                numbers[k] = far[rest % far.length];
                rest /= far.length;
            }
            int answer = (Integer) method.invoke(x, numbers);
            if (answer < -4) {
                check.due(method.getName() + Arrays.toString(numbers) + " is no answer", answer, 0);
            }
        }
        check.due(method.getName() + " never throws", 1, 1);
    }
}
