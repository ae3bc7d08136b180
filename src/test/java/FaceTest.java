import java.lang.reflect.Constructor;
import java.lang.reflect.Field;
import java.lang.reflect.Method;
import java.lang.reflect.Modifier;
import java.util.Arrays;
import java.util.Set;
import java.util.TreeSet;

/** The public face is the document's, and nothing besides it can be reached (LANGUAGE.md, rule 1). */
public final class FaceTest {
    private static final Set<String> CALLS = new TreeSet<>(Arrays.asList(
            "set 2", "say 1", "wipe 0", "fault 0", "push 0", "turn 2", "sit 2", "point 3",
            "ball 5", "caught 4", "all 3", "loops 3", "rolled 6", "off 4", "leans 1", "stays 1", "hut 3",
            "film 2", "clear 0", "bent 1", "turned 0", "span 2", "learns 4", "along 4", "image 1", "restore 1",
            "told 1"));
    private static final Set<String> CONSTANTS = new TreeSet<>(Arrays.asList(
            "UNKNOWN -1", "OUTSIDE -2", "STATE -3", "FULL -4", "NO -5", "NONE -6", "GONE -100000000"));

    private FaceTest() {
    }

    public static void main(String[] args) throws IllegalAccessException {
        Script.due("modifiers", RoundThrow.class.getModifiers(), Modifier.PUBLIC | Modifier.FINAL);
        methods();
        constants();
        Constructor<?>[] constructors = RoundThrow.class.getDeclaredConstructors();
        Script.due("constructors", constructors.length, 1);
        Script.due("its modifiers", constructors[0].getModifiers(), Modifier.PUBLIC);
        Script.due("its parameters", constructors[0].getParameterCount(), 0);
        for (Class<?> inside : RoundThrow.class.getDeclaredClasses()) {
            int reach = inside.getModifiers() & (Modifier.PUBLIC | Modifier.PROTECTED);
            Script.due("reach of " + inside, reach, 0);
            Script.due("static " + inside, Modifier.isStatic(inside.getModifiers()) ? 1 : 0, 1);
        }
        Script.end();
    }

    private static void methods() {
        Set<String> found = new TreeSet<>();
        for (Method method : RoundThrow.class.getDeclaredMethods()) {
            String call = method.getName() + " " + method.getParameterCount();
            if (Modifier.isPrivate(method.getModifiers())) {
                boolean taken = CALLS.stream().anyMatch(known -> known.startsWith(method.getName() + " "));
                Script.due("a private method has a public one's name: " + call, taken ? 1 : 0, 0);
                continue;
            }
            found.add(call);
            Script.due("modifiers of " + call, method.getModifiers(), Modifier.PUBLIC);
            boolean ints = method.getReturnType() == int.class
                    && Arrays.stream(method.getParameterTypes()).allMatch(type -> type == int.class);
            Script.due("types of " + call, ints ? 1 : 0, 1);
        }
        Script.due("calls " + found, found.equals(CALLS) ? 1 : 0, 1);
    }

    private static void constants() throws IllegalAccessException {
        Set<String> found = new TreeSet<>();
        for (Field field : RoundThrow.class.getDeclaredFields()) {
            if (!Modifier.isPrivate(field.getModifiers())) {
                int want = Modifier.PUBLIC | Modifier.STATIC | Modifier.FINAL;
                Script.due("modifiers of " + field, field.getModifiers(), want);
                found.add(field.getName() + " " + field.getInt(null));
            }
        }
        Script.due("constants " + found, found.equals(CONSTANTS) ? 1 : 0, 1);
    }
}
