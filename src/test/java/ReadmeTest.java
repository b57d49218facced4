import java.lang.reflect.Method;
import java.lang.reflect.Modifier;
import java.net.URL;
import java.net.URLClassLoader;
import java.nio.file.Files;
import java.nio.file.Path;
import java.util.ArrayList;
import java.util.List;
import java.util.regex.Matcher;
import java.util.regex.Pattern;

/** What README.md says, tried: its example, its way to feed a text, and the names that it lists. */
public final class ReadmeTest {
    private static final Pattern ANSWERED = Pattern.compile("(x\\.\\w+\\(.*\\)); *// (-?\\d+|true|false): .*");

    private ReadmeTest() { }

    public static void main(String[] args) throws Exception {
        String page = Files.readString(Path.of("README.md"));
        List<String> blocks = javaBlocks(page);
        Check.due("blocks of Java", blocks.size(), 2);
        if (blocks.size() == 2) {
            tryCode(blocks.get(0), blocks.get(1));
        }
        names(page);
        Check.close();
    }

    private static List<String> javaBlocks(String page) {
        List<String> found = new ArrayList<>();
        Matcher m = Pattern.compile("(?s)```java\n(.*?)```").matcher(page);
        while (m.find()) {
            found.add(m.group(1));
        }
        return found;
    }

    /** Each call of the example with its answer becomes a row of a class that is compiled and run. */
    private static void tryCode(String example, String helper) throws Exception {
        StringBuilder code = new StringBuilder("public class Tried {\n").append(helper);
        code.append("public static void told(FreeAlderman x, String text) { tell(x, text); }\n");
        code.append("public static void main(java.util.List<String> rows) {\n");
        int answers = 0;
        for (String line : example.split("\n")) {
            Matcher m = ANSWERED.matcher(line.strip());
            if (m.matches()) {
                answers++;
                code.append("rows.add(\"").append(m.group(1)).append(" = \" + ").append(m.group(1)).append(");\n");
                code.append("rows.add(\"").append(m.group(1)).append(" = ").append(m.group(2)).append("\");\n");
            } else {
                Check.same("a line without an answer", line.strip(), "FreeAlderman x = new FreeAlderman();");
                code.append(line).append('\n');
            }
        }
        code.append("}\n}\n");
        Check.due("answers in the example", answers >= 20, true);
        run(code.toString());
    }

    private static void run(String code) throws Exception {
        Path dir = Files.createTempDirectory("readme");
        Path file = Files.writeString(dir.resolve("Tried.java"), code);
        String classes = Path.of(FreeAlderman.class.getProtectionDomain().getCodeSource().getLocation().toURI()).toString();
        int failed = new ProcessBuilder("javac", "-cp", classes, "-d", dir.toString(), file.toString()).inheritIO().start().waitFor();
        Check.due("the code of the page compiles", failed, 0);
        if (failed == 0) {
            try (URLClassLoader loader = new URLClassLoader(new URL[] {dir.toUri().toURL()})) {
                Class<?> tried = loader.loadClass("Tried");
                answers(tried);
                feeding(tried);
            }
        }
        for (String left : new String[] {"Tried.class", "Tried.java"}) {
            Files.deleteIfExists(dir.resolve(left));
        }
        Files.delete(dir);
    }

    private static void answers(Class<?> tried) throws Exception {
        List<String> rows = new ArrayList<>();
        tried.getMethod("main", List.class).invoke(null, rows);
        for (int i = 0; i + 1 < rows.size(); i += 2) {
            Check.same("the page's answer", rows.get(i), rows.get(i + 1));
        }
    }

    private static void feeding(Class<?> tried) throws Exception {
        Method told = tried.getMethod("told", FreeAlderman.class, String.class);
        String[] cities = {"p;px1", "sb20h30;px1y2;px5;py6v9o2k1", "p;px1;px2;px3;px4;px5;px6;sb9"};
        int[] places = {2, 3, 7};
        for (int i = 0; i < cities.length; i++) {
            FreeAlderman x = new FreeAlderman();
            x.feed(0x20202020, 0, 0, 0, 0);
            told.invoke(null, x, cities[i]);
            Check.due("bytes of " + cities[i], x.count(3), cities[i].length());
            Check.due("places of " + cities[i], x.text(0), places[i]);
        }
    }

    private static void names(String page) throws Exception {
        for (Method m : FreeAlderman.class.getDeclaredMethods()) {
            if (Modifier.isPublic(m.getModifiers())) {
                Check.due("the page names " + m.getName(), page.contains("`" + m.getName() + "`"), true);
            }
        }
        for (Class<?> inside : FreeAlderman.class.getDeclaredClasses()) {
            boolean named = Pattern.compile("(?m)^\\|[^|]*\\b" + inside.getSimpleName() + "\\b[^|]*\\|").matcher(page).find();
            Check.due("the page names " + inside.getSimpleName(), named, true);
        }
        try (var tests = Files.newDirectoryStream(Path.of("src/test/java"), "*Test.java")) {
            for (Path test : tests) {
                String name = test.getFileName().toString().replace(".java", "");
                Check.due("the page names " + name, page.contains("`" + name + "`"), true);
            }
        }
    }
}
