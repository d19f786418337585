import java.lang.reflect.Method;
import java.lang.reflect.Modifier;
import java.nio.file.Files;
import java.nio.file.Path;
import java.util.HashMap;
import java.util.HashSet;
import java.util.Map;
import java.util.Set;
import java.util.regex.Matcher;
import java.util.regex.Pattern;

/** The calls of README.md answer what stands behind them, and every call of the face is shown there. */
public final class ReadmeExample {
    private static final Pattern CALL = Pattern.compile("x\\.(\\w+)\\((.*?)\\); *// (-?\\d+)([,:].*)?");
    private static final Map<String, Method> FACE = new HashMap<>();
    private static final Set<String> SHOWN = new HashSet<>();
    private static int wrong = 0;

    public static void main(String[] args) throws Exception {
        String readme = Files.readString(Path.of("README.md"));
        for (Method m : TillPairs.class.getDeclaredMethods()) {
            if (Modifier.isPublic(m.getModifiers())) {
                FACE.put(m.getName(), m);
            }
        }
        Matcher example = Pattern.compile("(?s)```java\n(.*?)```").matcher(readme);
        TillPairs x = null;
        while (example.find()) {
            for (String line : example.group(1).split("\n")) {
                if (line.equals("TillPairs x = new TillPairs();")) {
                    x = new TillPairs();
                } else {
                    answer(x, line);
                }
            }
        }
        for (String name : FACE.keySet()) {
            if (!SHOWN.contains(name)) {
                say("README.md doesn't show " + name);
            }
        }
        System.out.println(wrong == 0 ? "README.md shows what is due" : wrong + " lines of README.md are wrong");
        if (wrong != 0) {
            System.exit(1);
        }
    }

    private static void say(String what) {
        wrong++;
        System.out.println(what);
    }

    private static void answer(TillPairs x, String line) throws Exception {
        Matcher call = CALL.matcher(line);
        Method method = call.matches() ? FACE.get(call.group(1)) : null;
        if (method == null || x == null) {
            say("not a call: " + line);
            return;
        }
        SHOWN.add(method.getName());
        String[] words = call.group(2).isEmpty() ? new String[0] : call.group(2).split(", *");
        Class<?>[] types = method.getParameterTypes();
        if (words.length != types.length) {
            say("so many arguments: " + line);
            return;
        }
        Object[] values = new Object[types.length];
        for (int i = 0; i < types.length; i++) {
            values[i] = value(types[i], words[i]);
        }
        long got = ((Number) method.invoke(x, values)).longValue();
        if (got != Long.parseLong(call.group(3))) {
            say(line + " answered " + got);
        }
    }

    private static Object value(Class<?> type, String word) {
        if (type == boolean.class) {
            return word.equals("true");
        }
        return type == long.class ? (Object) Long.decode(word.replace("L", "")) : (Object) Integer.decode(word);
    }
}
