import java.lang.reflect.Method;
import java.nio.file.Files;
import java.nio.file.Path;
import java.util.regex.Matcher;
import java.util.regex.Pattern;

/** The example of README.md, line by line: what stands behind // is what the call answers. */
public final class CanalEndReadme {
    private static final Pattern EXAMPLE = Pattern.compile("```java\n(.*?)```", Pattern.DOTALL);
    private static final Pattern TEXT = Pattern.compile("String text = \"(.*?)\";");
    private static final Pattern CALL = Pattern.compile("x\\.(\\w+)\\((.*)\\);\\s+// (-?\\d+): .*");

    public static void main(String[] args) throws Exception {
        Matcher example = EXAMPLE.matcher(Files.readString(Path.of("README.md")));
        if (!example.find()) {
            throw new IllegalStateException("README.md has no example");
        }
        int wrong = 0;
        int asked = 0;
        String text = "";
        CanalEnd x = new CanalEnd();
        for (String line : example.group(1).split("\n")) {
            Matcher told = TEXT.matcher(line);
            if (told.find()) {
                text = told.group(1);
            } else if (line.startsWith("for ")) {
                lay(x, text);
            }
            Matcher call = CALL.matcher(line);
            if (call.matches()) {
                asked++;
                long got = answer(x, call.group(1), call.group(2), text);
                if (got != Long.parseLong(call.group(3))) {
                    wrong++;
                    System.out.println("README.md: " + line.strip() + " but it answered " + got);
                }
            }
        }
        System.out.println(asked + " lines of the example looked at, " + wrong + " wrong");
        if (wrong != 0 || asked == 0) {
            System.exit(1);
        }
    }

    private static void lay(CanalEnd x, String text) {
        for (int i = 0; i < text.length(); i++) {
            x.put(0, i, text.charAt(i));
        }
    }

    private static long answer(CanalEnd x, String name, String told, String text) throws Exception {
        String[] words = told.isEmpty() ? new String[0] : told.replace("text.length()", "" + text.length()).split(", ");
        for (Method m : CanalEnd.class.getDeclaredMethods()) {
            if (m.getName().equals(name)) {
                return ((Number) m.invoke(x, values(m.getParameterTypes(), words))).longValue();
            }
        }
        throw new IllegalStateException("there is no call " + name);
    }

    private static Object[] values(Class<?>[] types, String[] words) {
        if (types.length != words.length) {
            throw new IllegalStateException("a call takes " + types.length + " arguments, not " + words.length);
        }
        Object[] values = new Object[words.length];
        for (int k = 0; k < words.length; k++) {
            values[k] = types[k] == boolean.class ? (Object) Boolean.valueOf(words[k]) : (Object) Integer.valueOf(words[k]);
        }
        return values;
    }
}
