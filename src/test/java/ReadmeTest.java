import java.io.IOException;
import java.nio.file.Files;
import java.nio.file.Path;
import java.util.ArrayList;
import java.util.List;

/** What README.md shows is so: its example's answers, and that it names every call and every test. Run from the project's folder. */
public final class ReadmeTest {
    private ReadmeTest() {
    }

    public static void main(String[] args) throws IOException {
        String readme = Files.readString(Path.of("README.md"));
        example(readme);
        namesAll(readme);
        Check.end();
    }

    /** Each line of the example, and what stands behind it there. */
    private static void example(String readme) {
        DustYard yard = new DustYard();
        List<String> shown = new ArrayList<>();
        shown.add(row("yard.feed(0x68656170, 0x20312033, 0x303b6669, 0x72652035, 0)",
                yard.feed(0x68656170, 0x20312033, 0x303b6669, 0x72652035, 0)));
        shown.add(row("yard.end(16)", yard.end(16)));
        shown.add(row("yard.yard()", yard.yard()));
        shown.add(row("yard.take(1, 3, 12, 4)", yard.take(1, 3, 12, 4)));
        shown.add(row("yard.days(1)", yard.days(1)));
        shown.add(row("yard.count(8)", yard.count(8)));
        shown.add(row("yard.undo()", yard.undo()));
        shown.add(row("yard.count(8)", yard.count(8)));
        int from = 0;
        for (String row : shown) {
            int at = readme.indexOf(row, from);
            Check.is("the README shows " + row, at >= 0, true);
            from = Math.max(from, at);
        }
    }

    private static String row(String call, Object answer) {
        return call + ";  // " + answer;
    }

    private static void namesAll(String readme) throws IOException {
        for (java.lang.reflect.Method method : DustYard.class.getDeclaredMethods()) {
            if (java.lang.reflect.Modifier.isPublic(method.getModifiers())) {
                Check.is("the README names " + method.getName(), readme.contains("`" + method.getName() + "`"), true);
            }
        }
        try (var files = Files.list(Path.of("src/test/java"))) {
            for (Path file : (Iterable<Path>) files::iterator) {
                String name = file.getFileName().toString().replace(".java", "");
                Check.is("the README names " + name, readme.contains("`" + name + "`"), true);
            }
        }
    }
}
