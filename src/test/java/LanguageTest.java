import java.lang.reflect.Constructor;
import java.lang.reflect.Field;
import java.lang.reflect.Method;
import java.lang.reflect.Modifier;
import java.nio.charset.StandardCharsets;
import java.nio.file.Files;
import java.nio.file.Path;
import java.util.ArrayList;
import java.util.List;
import java.util.TreeSet;
import java.util.regex.Matcher;
import java.util.regex.Pattern;

/** The rules of LANGUAGE.md that can be seen from the class or from its text. */
public final class LanguageTest {
    private static final String FACE = """
            int feed(int,int,int,int,int)
            boolean end(int)
            int fault(int)
            int text(int)
            int rule(int)
            int spot(int,int)
            boolean law(int)
            boolean gout(int)
            int steps(int,int)
            int walk(int)
            int ledge()
            int restore(int)
            int patience(int,int)
            int day()
            int years(int,long)
            int undo()
            int log(int,int)
            int step(int,int,int)
            int run(int,int)
            int perform(int)
            int troubles(int)
            int sees(int)
            int least(int,int)
            int manners(int)
            int noted(int,int,boolean)
            int ways(int,int)
            int ask(int,int)
            int always(int)
            int round(int)
            int meets(int,int)
            int game(int,int,int,int,int)
            int rests(int,int,int)
            int odds(int,int,int)
            int cost(int)
            int all(int)
            int kinds(int)
            int calm(int)
            int image()
            int back()
            int count(int)
            """;

    public static void main(String[] args) throws Exception {
        face();
        nestedClasses();
        staticFields();
        String source = Files.readString(Path.of("src/main/java/FreeAlderman.java"), StandardCharsets.US_ASCII);
        forbiddenWords(source);
        lengthOfMethods(source);
        Check.close();
    }

    private static String shortSign(Method m) {
        List<String> types = new ArrayList<>();
        for (Class<?> type : m.getParameterTypes()) {
            types.add(type.getSimpleName());
        }
        return m.getReturnType().getSimpleName() + " " + m.getName() + "(" + String.join(",", types) + ")";
    }

    private static void face() {
        Class<?> c = FreeAlderman.class;
        Check.due("rule 1: public and final", c.getModifiers(), Modifier.PUBLIC | Modifier.FINAL);
        TreeSet<String> got = new TreeSet<>();
        TreeSet<String> names = new TreeSet<>();
        for (Method m : c.getDeclaredMethods()) {
            if (Modifier.isPublic(m.getModifiers())) {
                got.add(shortSign(m));
                names.add(m.getName());
                Check.due("rule 1: " + m + " is of an object", Modifier.isStatic(m.getModifiers()), false);
            }
        }
        Check.same("rule 1: the face", String.join("\n", got), String.join("\n", new TreeSet<>(FACE.lines().toList())));
        Check.same("the exception that spot tells", exceptionOfSpot(), "java.util.NoSuchElementException");
        for (Method m : c.getDeclaredMethods()) {
            boolean isPublic = Modifier.isPublic(m.getModifiers());
            Check.due("rule 1: " + m + " is public or private", isPublic || Modifier.isPrivate(m.getModifiers()), true);
        }
        for (Class<?> nested : everyClass()) {
            for (Method m : nested.getDeclaredMethods()) {
                Check.due("rule 1: the name of " + m, nested != c && names.contains(m.getName()), false);
                Check.due("rule 11: parameters of " + m, m.getParameterCount() <= 7, true);
            }
        }
        for (Constructor<?> made : c.getDeclaredConstructors()) {
            Check.due("rule 1: constructor", made.getParameterCount(), 0);
            Check.due("rule 1: constructor", made.getModifiers(), Modifier.PUBLIC);
        }
    }

    private static String exceptionOfSpot() {
        for (Method m : FreeAlderman.class.getDeclaredMethods()) {
            if (m.getName().equals("spot") && m.getExceptionTypes().length == 1) {
                return m.getExceptionTypes()[0].getName();
            }
        }
        return "none";
    }

    private static List<Class<?>> everyClass() {
        List<Class<?>> found = new ArrayList<>();
        found.add(FreeAlderman.class);
        found.addAll(List.of(FreeAlderman.class.getDeclaredClasses()));
        return found;
    }

    private static void nestedClasses() {
        Check.due("rule 11: classes", everyClass().size() <= 13, true);
        for (Class<?> nested : FreeAlderman.class.getDeclaredClasses()) {
            Check.due("rule 1: " + nested + " is static", Modifier.isStatic(nested.getModifiers()), true);
            Check.due("rule 1: " + nested + " is not public", Modifier.isPublic(nested.getModifiers()), false);
        }
    }

    private static void staticFields() {
        for (Class<?> nested : everyClass()) {
            int own = 0;
            for (Field f : nested.getDeclaredFields()) {
                boolean isStatic = Modifier.isStatic(f.getModifiers());
                Check.due("rule 5: " + f, !isStatic || Modifier.isFinal(f.getModifiers()), true);
                own += isStatic ? 0 : 1;
                if (nested == FreeAlderman.class) {
                    boolean told = f.getName().equals("NONE") || f.getName().equals("HIDDEN");
                    Check.due("rule 1: " + f, Modifier.isPrivate(f.getModifiers()), !told);
                }
            }
            Check.due("rule 11: fields of " + nested, own <= 20, true);
        }
    }

    private static String withoutCommentsAndTexts(String source) {
        return source.replaceAll("(?s)/\\*.*?\\*/", "").replaceAll("(?m)//.*$", "")
                .replaceAll("'\\\\?.'", "' '").replaceAll("\"[^\"]*\"", "\"\"");
    }

    private static void forbiddenWords(String source) {
        String code = withoutCommentsAndTexts(source);
        String[] words = {"->", "::", "\\btry\\b", "\\bcatch\\b", "\\bfinally\\b", "\\bsynchronized\\b", "\\bassert\\b", "\\bpackage\\b",
            "\\bdouble\\b", "\\bfloat\\b", "\\bvar\\b", "Exact\\b", "\\bequals\\b", "\\bhashCode\\b", "\\btoString\\b", "\\bthis\\(",
            "\"\" \\+", "\\+ \"\"", "\\bObject\\b", "\\bRandom\\b", "\\bThread\\b", "\\bstatic \\{", "\\binstanceof\\b"};
        for (String word : words) {
            Check.due("not to be used: " + word, Pattern.compile(word).matcher(code).find(), false);
        }
        Matcher imports = Pattern.compile("(?m)^import (.*);$").matcher(code);
        while (imports.find()) {
            Check.same("rule 4: import", imports.group(1), "java.util.NoSuchElementException");
        }
        Matcher calls = Pattern.compile("\\b(System|Math|Integer|Long|Arrays|String|List)\\.(\\w+)").matcher(code);
        while (calls.find()) {
            boolean good = List.of("arraycopy", "abs", "max", "min", "floorMod", "bitCount").contains(calls.group(2));
            Check.due("rule 4: " + calls.group(), good, true);
        }
        Matcher thrown = Pattern.compile("throw new (\\w+)").matcher(code);
        while (thrown.find()) {
            Check.same("rule 6: throw", thrown.group(1), "NoSuchElementException");
        }
    }

    private static void lengthOfMethods(String source) {
        String begun = null;
        int from = 0;
        String[] lines = source.split("\n");
        for (int i = 0; i < lines.length; i++) {
            if (lines[i].matches(" {4,8}[\\w\\[\\] ]+\\(.*\\{") && !lines[i].matches(" +(if|for|while|switch|else).*")) {
                begun = lines[i];
                from = i;
            } else if (begun != null && lines[i].matches(" {4,8}\\}") && lines[i].indexOf('}') == begun.length() - begun.stripLeading().length()) {
                Check.due("rule 11: lines of " + begun.strip(), i - from <= 60, true);
                begun = null;
            }
            Check.due("lines of 130 at most", lines[i].length() <= 130, true);
        }
    }
}
