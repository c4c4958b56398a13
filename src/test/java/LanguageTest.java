import java.io.IOException;
import java.nio.file.Files;
import java.nio.file.Path;
import java.util.regex.Matcher;
import java.util.regex.Pattern;

/** Those rules of LANGUAGE.md that can be seen in the program's text without a compiler. Run from the project's folder. */
public final class LanguageTest {
    private static final String[] BANNED = {
        "->", "::", "\\btry\\b", "\\bcatch\\b", "\\bfinally\\b", "\\bsynchronized\\b", "\\bassert\\b", "Exact\\b", "\\bSystem\\.(?!arraycopy)",
        "\\bstatic\\s*\\{", "\\bprotected\\b", "\\bvolatile\\b", "\\bThread\\b", "\\bvar\\b", "\\bObject\\b", "\\.format\\(", "\\.hashCode\\(",
        "\\bgetMessage\\b", "\\bdouble\\b", "\\bfloat\\b", "^package ", "\\b(Integer|Long|Math)\\.[A-Z]",
    };
    private static final int MOST_CLASSES = 12;
    private static final int MOST_LINES = 60;
    private static final int MOST_PARAMETERS = 7;
    private static final int MOST_FIELDS = 20;

    private LanguageTest() {
    }

    public static void main(String[] args) throws IOException {
        String text = Files.readString(Path.of("src/main/java/DustYard.java"));
        Check.is("signs beyond 127", text.chars().filter(c -> c > 127).count(), 0);
        String code = text.replaceAll("\"[^\"\n]*\"", "\"\"").replaceAll("//[^\n]*", "").replaceAll("(?s)/\\*.*?\\*/", "");
        for (String banned : BANNED) {
            Check.is(banned, Pattern.compile(banned, Pattern.MULTILINE).matcher(code).results().count(), 0);
        }
        Matcher imports = Pattern.compile("^import (.*);$", Pattern.MULTILINE).matcher(code);
        while (imports.find()) {
            Check.is(imports.group(), imports.group(1).matches("java\\.util\\.(NoSuchElementException|ArrayList|List|Arrays)"), true);
        }
        Matcher statics = Pattern.compile("^\\s+(private |public )?static (?!final )[^(\n]*;$", Pattern.MULTILINE).matcher(code);
        Check.is("static fields that are not final", statics.results().count(), 0);
        Check.is("classes", Pattern.compile("\\bclass \\w").matcher(code).results().count() <= MOST_CLASSES, true);
        fieldsOf(code);
        methods(code.split("\n"));
        Check.end();
    }

    private static void fieldsOf(String code) {
        for (String part : code.split("\\bclass ")) {
            long fields = Pattern.compile("^\\s+(private )?(final )?[\\w\\[\\]]+ \\w+( = [^;]*)?;$", Pattern.MULTILINE).matcher(
                    part.replaceAll("(?s)\\{\n(?=            ).*?\n        \\}", "")
                        .replaceAll("(?s)\\) (throws [^{]*)?\\{.*?\n    \\}", "")).results().count();
            Check.is("fields of " + part.split("\\s")[0] + " " + fields, fields <= MOST_FIELDS, true);
        }
    }

    private static void methods(String[] lines) {
        Pattern head = Pattern.compile("^( {4}| {8})(public |private |static |final )*[\\w\\[\\]]+ \\w+\\(([^)]*)\\)?.*");
        for (int i = 0; i < lines.length; i++) {
            Matcher matcher = head.matcher(lines[i]);
            if (!matcher.matches() || lines[i].trim().startsWith("return") || lines[i].contains(" = ")) {
                continue;
            }
            int end = i;
            while (end < lines.length && !lines[end].equals(matcher.group(1) + "}")) {
                end++;
            }
            Check.is("lines of " + lines[i].trim(), end - i <= MOST_LINES, true);
            Check.is("parameters of " + lines[i].trim(), matcher.group(3).split(",").length <= MOST_PARAMETERS, true);
        }
    }
}
