import java.nio.file.Files;
import java.nio.file.Path;
import java.util.regex.Matcher;
import java.util.regex.Pattern;

/** What can be seen in the program's text of the rules in ../shared/LANGUAGE.md; run from the project's folder. */
public final class LanguageRules {
    private static int wrong = 0;

    public static void main(String[] args) throws Exception {
        String text = Files.readString(Path.of("src/main/java/TillPairs.java"));
        String code = text.replaceAll("(?s)/\\*.*?\\*/", "").replaceAll("//[^\n]*", "");
        never(code, "a package line", "\\bpackage\\b");
        never(code, "an exception (6)", "\\b(throws?|try|catch|finally|assert|synchronized)\\b");
        never(code, "a lambda or a method reference (2)", "->|::");
        never(code, "a name of the library that isn't listed (4)",
                "\\b(System\\.(?!arraycopy)|Objects|Random|Thread|HashMap|Map|Set|Iterator|toString|hashCode|Exact)");
        never(code, "a static field that is not final (5)", "\\bstatic (?!final|class)[\\w\\[\\]]+ \\w+\\s*[=;]");
        never(code, "a class inside that is not static (2)", "\\bprivate (final )?class\\b");
        never(code, "a sign above 127 (3)", "[^\\x00-\\x7f]");
        Matcher imports = Pattern.compile("(?m)^import (.*);").matcher(code);
        while (imports.find()) {
            same("import", imports.group(1), "java.util.Arrays");
        }
        longMethods(code);
        System.out.println(wrong == 0 ? "no rule is seen broken" : wrong + " rules are broken");
        if (wrong != 0) {
            System.exit(1);
        }
    }

    private static void never(String code, String what, String pattern) {
        Matcher found = Pattern.compile(pattern).matcher(code);
        if (found.find()) {
            wrong++;
            System.out.println(what + ": " + found.group());
        }
    }

    private static void same(String what, String got, String want) {
        if (!got.equals(want)) {
            wrong++;
            System.out.println(what + ": " + got);
        }
    }

    private static void longMethods(String code) {
        int lines = 0;
        String name = null;
        for (String line : code.split("\n")) {
            if (line.matches("( {4}| {8})\\S.*\\(.*\\) \\{")) {
                name = line.trim();
                lines = 0;
            }
            lines++;
            if (name != null && line.matches("( {4}| {8})\\}")) {
                if (lines > 60) {
                    wrong++;
                    System.out.println("a method of " + lines + " lines (11): " + name);
                }
                name = null;
            }
        }
    }
}
