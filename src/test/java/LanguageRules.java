import java.io.DataInputStream;
import java.io.IOException;
import java.lang.reflect.Array;
import java.lang.reflect.Constructor;
import java.lang.reflect.Field;
import java.lang.reflect.Method;
import java.lang.reflect.Modifier;
import java.nio.file.Files;
import java.nio.file.Path;
import java.util.HashMap;
import java.util.HashSet;
import java.util.IdentityHashMap;
import java.util.Map;
import java.util.Set;
import java.util.TreeSet;
import java.util.regex.Matcher;
import java.util.regex.Pattern;

/** What can be seen in the program of the rules in ../shared/LANGUAGE.md; run from the project's folder. */
public final class LanguageRules {
    private static final int DEEPEST = 8;
    private static final int MOST_OBJECTS = 100, MOST_CELLS = 2000;
    /** Rule 4 as the compiled class names it; lists aren't here, as the program has none. */
    private static final Pattern LIBRARY = Pattern.compile("java/lang/Object\\.<init>"
            + "|java/lang/String\\.(length|charAt|isEmpty|equals|indexOf|substring|toCharArray|<init>)"
            + "|java/lang/StringBuilder\\.(<init>|append|charAt|setCharAt|setLength|deleteCharAt|reverse|length|toString)"
            + "|java/lang/(Integer|Long|Math)\\.(compare|max|min|abs|bitCount|floorDiv|floorMod)"
            + "|java/lang/System\\.arraycopy|java/util/Arrays\\.(copyOf|copyOfRange|fill)");
    private static int wrong = 0;

    public static void main(String[] args) throws Exception {
        String text = Files.readString(Path.of("src/main/java/TillPairs.java"));
        String code = text.replaceAll("(?s)/\\*.*?\\*/", "").replaceAll("//[^\n]*", "");
        never(code, "a package line", "\\bpackage\\b");
        never(code, "an exception (6)", "\\b(throws?|try|catch|finally|assert|synchronized)\\b");
        never(code, "a lambda or a method reference (2)", "->|::");
        never(code, "a name of the library that isn't listed (4)",
                "\\b(System\\.(?!arraycopy)|Objects|Random|Thread|HashMap|Map|Set|Iterator|toString|hashCode|Exact)");
        never(code, "a static field that is not final (5)", "\\bstatic (?!final|class)[\\w\\[\\]]+ \\w+\\s*[=;]");
        never(code, "a class inside that is not static (2)", "\\bprivate (final )?class\\b");
        never(code, "a sign above 127 (3)", "[^\\x00-\\x7f]");
        Matcher imports = Pattern.compile("(?m)^import (.*);").matcher(code);
        while (imports.find()) {
            same("import", imports.group(1), "java.util.Arrays");
        }
        face();
        members();
        library(TillPairs.class);
        for (Class<?> inner : TillPairs.class.getDeclaredClasses()) {
            library(inner);
        }
        room();
        Map<String, String> bodies = methods(code);
        noObjectsByCalls(bodies);
        Set<String> open = new HashSet<>();
        for (String name : bodies.keySet()) {
            deep(name, bodies, open, "");
        }
        System.out.println(wrong == 0 ? "no rule is seen broken" : wrong + " rules are broken");
        if (wrong != 0) {
            System.exit(1);
        }
    }

    private static void never(String code, String what, String pattern) {
        Matcher found = Pattern.compile(pattern).matcher(code);
        if (found.find()) {
            wrong++;
            System.out.println(what + ": " + found.group());
        }
    }

    private static void same(String what, Object got, Object want) {
        if (!got.equals(want)) {
            wrong++;
            System.out.println(what + ": " + got + ", not " + want);
        }
    }

    private static void atMost(String what, int got, int most) {
        if (got > most) {
            wrong++;
            System.out.println(what + ": " + got + ", at most " + most);
        }
    }

    /** Rule 1: the document's face, and nothing beside it that isn't private. */
    private static void face() throws Exception {
        Set<String> told = new TreeSet<>();
        String doc = Files.readString(Path.of("../shared/DOC.md"));
        Matcher lines = Pattern.compile("(?m)^    public (int|long) (\\w+)\\((.*)\\);").matcher(doc);
        while (lines.find()) {
            told.add(lines.group(1) + " " + lines.group(2) + "(" + lines.group(3).replaceAll(" \\w+(,|$)", "$1") + ")");
        }
        Set<String> stands = new TreeSet<>(), open = new HashSet<>();
        for (Method m : TillPairs.class.getDeclaredMethods()) {
            if (!Modifier.isPrivate(m.getModifiers()) && !m.isSynthetic()) {
                StringBuilder types = new StringBuilder();
                for (Class<?> type : m.getParameterTypes()) {
                    types.append(types.length() == 0 ? "" : ", ").append(type.getSimpleName());
                }
                stands.add(m.getReturnType().getSimpleName() + " " + m.getName() + "(" + types + ")");
                same("public, not static: " + m, m.getModifiers(), Modifier.PUBLIC);
                open.add(m.getName());
            }
        }
        same("the face (1)", stands, told);
        same("methods of the face (1)", told.size(), 44);
        same("public and final (1)", TillPairs.class.getModifiers(), Modifier.PUBLIC | Modifier.FINAL);
        same("constructors (1)", TillPairs.class.getConstructors().length, 1);
        same("constructors in all (1)", TillPairs.class.getDeclaredConstructors().length, 1);
        for (Class<?> inner : TillPairs.class.getDeclaredClasses()) {
            for (Method m : inner.getDeclaredMethods()) {
                same("a method inside bears a public name (1): " + m, open.contains(m.getName()), false);
            }
        }
        for (Method m : TillPairs.class.getDeclaredMethods()) {
            if (Modifier.isPrivate(m.getModifiers())) {
                same("a private method bears a public name (1): " + m, open.contains(m.getName()), false);
            }
        }
    }

    /** Rules 1, 2, 5 and 11: fields, classes inside, parameters. */
    private static void members() {
        Set<String> constants = new TreeSet<>();
        for (Field f : TillPairs.class.getDeclaredFields()) {
            if (!Modifier.isPrivate(f.getModifiers())) {
                constants.add(f.getName());
                same("a constant: " + f, f.getModifiers(), Modifier.PUBLIC | Modifier.STATIC | Modifier.FINAL);
            }
        }
        same("public constants (1)", constants.toString(), "[BAD, FULL, NONE, STATE]");
        Class<?>[] inner = TillPairs.class.getDeclaredClasses();
        atMost("classes (11)", inner.length + 1, 12);
        size(TillPairs.class);
        for (Class<?> c : inner) {
            same("a class inside is static (2): " + c, Modifier.isStatic(c.getModifiers()), true);
            same("a class inside isn't public (1): " + c, Modifier.isPublic(c.getModifiers()), false);
            size(c);
        }
    }

    private static void size(Class<?> c) {
        int fields = 0;
        for (Field f : c.getDeclaredFields()) {
            fields += Modifier.isStatic(f.getModifiers()) ? 0 : 1;
            same("a static field is final (5): " + f,
                    !Modifier.isStatic(f.getModifiers()) || Modifier.isFinal(f.getModifiers()), true);
        }
        atMost("fields of " + c + " (11)", fields, 20);
        for (Method m : c.getDeclaredMethods()) {
            atMost("parameters of " + m + " (11)", m.getParameterCount(), 7);
        }
        for (Constructor<?> k : c.getDeclaredConstructors()) {
            atMost("parameters of " + k + " (11)", k.getParameterCount(), 7);
        }
    }

    /** Rule 4: what the compiled class calls outside itself. */
    private static void library(Class<?> c) throws IOException {
        try (DataInputStream in = new DataInputStream(c.getResourceAsStream(c.getName() + ".class"))) {
            in.skipBytes(8);
            int many = in.readUnsignedShort();
            Object[] pool = new Object[many];
            for (int i = 1; i < many; i++) {
                int tag = in.readUnsignedByte();
                pool[i] = entry(tag, in);
                i += tag == 5 || tag == 6 ? 1 : 0;
            }
            for (Object entry : pool) {
                if (entry instanceof int[] ref && ref.length == 3) {
                    String owner = (String) pool[((int[]) pool[ref[1]])[0]];
                    String name = owner + "." + pool[((int[]) pool[ref[2]])[0]];
                    boolean own = owner.startsWith("TillPairs") || owner.startsWith("[");
                    same("the library's " + name + " in " + c + " (4)",
                            own || (ref[0] == 10 && LIBRARY.matcher(name).matches()), true);
                }
            }
        }
    }

    /** An entry of the pool of constants: a text; tag, class and name of a member; or what it points at. */
    private static Object entry(int tag, DataInputStream in) throws IOException {
        switch (tag) {
            case 1: return in.readUTF();
            case 3: case 4: in.skipBytes(4); return null;
            case 5: case 6: in.skipBytes(8); return null;
            case 9: case 10: case 11: return new int[] {tag, in.readUnsignedShort(), in.readUnsignedShort()};
            case 12: return new int[] {in.readUnsignedShort(), in.readUnsignedShort()};
            case 7: case 8: return new int[] {in.readUnsignedShort()};
            default: throw new IOException("a constant of tag " + tag + ", as lambdas and joined texts make them");
        }
    }

    /** Rule 12 and the one room: what an object takes when it is made, and that calls don't make it more. */
    private static void room() throws Exception {
        TillPairs x = new TillPairs();
        long[] made = new long[2];
        walk(x, new IdentityHashMap<>(), made);
        atMost("objects of a new TillPairs (12)", (int) made[0], MOST_OBJECTS);
        atMost("fields and elements of a new TillPairs (12)", (int) made[1], MOST_CELLS);
        for (int i = 0; i < 8; i++) {
            x.person();
            x.plan(1 + i % 5, i);
            x.fill(i, i);
            x.feed(0x3b6e6f73726570L, 7);
        }
        x.mended(0, 0);
        x.ahead(0, 3);
        x.best(0, 1, 0);
        x.prove();
        x.keep();
        x.house();
        x.again();
        long[] later = new long[2];
        walk(x, new IdentityHashMap<>(), later);
        same("objects after calls (12)", later[0], made[0]);
        same("fields and elements after calls (12)", later[1], made[1]);
    }

    private static void walk(Object at, IdentityHashMap<Object, Object> met, long[] counts) throws Exception {
        if (at == null || met.put(at, at) != null) {
            return;
        }
        counts[0]++;
        if (at.getClass().isArray()) {
            counts[1] += Array.getLength(at);
            if (at instanceof Object[] parts) {
                for (Object part : parts) {
                    walk(part, met, counts);
                }
            }
            return;
        }
        for (Field f : at.getClass().getDeclaredFields()) {
            if (!Modifier.isStatic(f.getModifiers())) {
                counts[1]++;
                if (!f.getType().isPrimitive()) {
                    f.setAccessible(true);
                    walk(f.get(at), met, counts);
                }
            }
        }
    }

    /** The bodies by their methods' names (of one name all together); rule 11: none is longer than 60 lines. */
    private static Map<String, String> methods(String code) {
        Map<String, String> bodies = new HashMap<>();
        Pattern head = Pattern.compile("( {4}| {8})(?:[\\w\\[\\]]+ )*(\\w+)\\(.*\\) \\{");
        String name = null;
        StringBuilder body = new StringBuilder();
        int lines = 0;
        for (String line : code.split("\n")) {
            Matcher start = head.matcher(line);
            if (name == null && start.matches()) {
                name = start.group(2);
                body.setLength(0);
                lines = 0;
            }
            lines++;
            if (name != null && line.matches("( {4}| {8})\\}")) {
                atMost("lines of " + name + " (11)", lines, 60);
                bodies.merge(name, body.toString(), String::concat);
                name = null;
            } else if (name != null && lines > 1) {
                body.append(line).append('\n');
            }
        }
        return bodies;
    }

    /** All calls live in one room: what is made is made by constructors. */
    private static void noObjectsByCalls(Map<String, String> bodies) {
        for (Map.Entry<String, String> e : bodies.entrySet()) {
            if (Character.isLowerCase(e.getKey().charAt(0))) {
                never(e.getValue(), "an object made by " + e.getKey(), "\\bnew \\w+");
            }
        }
    }

    /** Rule 11: calls that are no recursion go at most eight deep. Methods of one name count as one. */
    private static void deep(String name, Map<String, String> bodies, Set<String> open, String way) {
        if (!open.add(name)) {
            return;
        }
        atMost("deep by" + way + " " + name + " (11)", open.size(), DEEPEST);
        Matcher calls = Pattern.compile("\\b(\\w+)\\(").matcher(bodies.get(name));
        Set<String> called = new HashSet<>();
        while (calls.find()) {
            if (bodies.containsKey(calls.group(1)) && called.add(calls.group(1))) {
                deep(calls.group(1), bodies, open, way + " " + name);
            }
        }
        open.remove(name);
    }
}
