import java.lang.reflect.Field;
import java.lang.reflect.Method;

/**
 * Plays rows of calls on a RoundThrow and counts the answers that are not due. A row is
 * {@code name numbers = answer}, {@code text signs} (each sign is said) or {@code new}; what stands
 * behind a {@code #} is a remark. An answer is a number, a constant's name, or {@code GONE-n}.
 */
final class Script {
    private static int asked = 0;
    private static int wrong = 0;

    private Script() {
    }

    /** Plays the rows on a new object, which it hands back. */
    static RoundThrow play(String title, String rows) {
        RoundThrow x = new RoundThrow();
        for (String line : rows.split("\n")) {
            String row = line.contains("#") ? line.substring(0, line.indexOf('#')).strip() : line.strip();
            if (row.equals("new")) {
                x = new RoundThrow();
            } else if (row.startsWith("text ")) {
                sayAll(x, title, row.substring(5).strip());
            } else if (!row.isEmpty()) {
                int split = row.lastIndexOf('=');
                due(title + ": " + row, call(x, row.substring(0, split).strip().split(" +")),
                        number(row.substring(split + 1).strip()));
            }
        }
        return x;
    }

    /** Plays rows without answers on an object of either kind, to bring it into a state. */
    static void prepare(Object x, String rows) {
        for (String row : rows.split("\n")) {
            if (row.startsWith("text ")) {
                for (char sign : row.substring(5).toCharArray()) {
                    call(x, "say", String.valueOf((int) sign));
                }
            } else if (!row.isEmpty()) {
                call(x, row.split(" "));
            }
        }
    }

    static void due(String what, long got, long want) {
        asked++;
        if (got != want) {
            wrong++;
            System.out.println(what + " -- answered " + got + ", due is " + want);
        }
    }

    /** Tells how it went; ends the program with 1 if an answer was wrong. */
    static void end() {
        System.out.println(asked + " answers, " + wrong + " wrong");
        if (wrong != 0 || asked == 0) {
            System.exit(1);
        }
    }

    static int call(Object x, String... words) {
        Object[] numbers = new Object[words.length - 1];
        for (int i = 1; i < words.length; i++) {
            numbers[i - 1] = number(words[i]);
        }
        for (Method method : x.getClass().getMethods()) {
            if (method.getName().equals(words[0]) && method.getParameterCount() == numbers.length
                    && method.getReturnType() == int.class) {
                try {
                    return (int) method.invoke(x, numbers);
                } catch (ReflectiveOperationException e) {
                    throw new IllegalStateException(String.join(" ", words), e);
                }
            }
        }
        throw new IllegalArgumentException("no such call: " + String.join(" ", words));
    }

    private static void sayAll(RoundThrow x, String title, String signs) {
        for (int i = 0; i < signs.length(); i++) {
            int had = x.told(0);
            due(title + ": text " + signs, x.say(signs.charAt(i)), had + 1);
        }
    }

    static int number(String word) {
        if (word.startsWith("GONE-")) {
            return RoundThrow.GONE - Integer.parseInt(word.substring(5));
        }
        if (!Character.isUpperCase(word.charAt(0))) {
            return Integer.parseInt(word);
        }
        try {
            Field field = RoundThrow.class.getField(word);
            return field.getInt(null);
        } catch (ReflectiveOperationException e) {
            throw new IllegalArgumentException(word, e);
        }
    }
}
