import java.io.IOException;
import java.lang.reflect.Field;
import java.lang.reflect.Method;
import java.lang.reflect.Modifier;
import java.nio.file.Files;
import java.nio.file.Path;
import java.util.ArrayList;
import java.util.List;
import java.util.Set;
import java.util.regex.Matcher;
import java.util.regex.Pattern;

/** What a program can see of the rules of LANGUAGE.md (and FaceTest sees rule 1). */
public final class LanguageTest {
    private static final Check CHECK = new Check("LanguageTest");
    private static final Set<Class<?>> STATIC_TYPES = Set.of(int.class, long.class, boolean.class, char.class,
        String.class, int[].class, long[].class, char[].class, byte[].class);
    private static final String[] NOT_THERE = {
        "->", "::", "\\bthrow\\b", "\\btry\\b", "\\bfinally\\b", "\\bsynchronized\\b", "\\bassert\\b",
        "\\bstatic \\{", "Exact\\(", "\\bSystem\\.(?!arraycopy)", "\\bThread\\b", "\\bRandom\\b", "\\bString\\b",
        "\\bdouble\\b", "\\bfloat\\b", "\\bwhile \\(true", "for \\(;;",
    };

    public static void main(String[] args) throws IOException {
        List<String> lines = withoutTexts(Files.readAllLines(Path.of("src/main/java/TuneSetter.java")));
        String code = String.join("\n", lines);
        words(code);
        madeWithTheObject(lines);
        shortMethods(lines);
        List<Class<?>> classes = new ArrayList<>(List.of(TuneSetter.class.getDeclaredClasses()));
        classes.add(TuneSetter.class);
        CHECK.sentence("rule 11: the file has at most some twelve classes");
        CHECK.due("more than twelve classes", classes.size() > 12, false);
        for (Class<?> one : classes) {
            fields(one);
            parameters(one);
        }
        CHECK.end();
    }

    /** Without comments, and with nothing between quotes. */
    private static List<String> withoutTexts(List<String> lines) {
        List<String> code = new ArrayList<>();
        for (String line : lines) {
            code.add(line.replaceAll("'(\\\\.|[^'\\\\])'", "' '").replaceAll("//.*|/\\*\\*.*\\*/", ""));
        }
        return code;
    }

    private static void words(String code) {
        CHECK.sentence("rule 1: no package line; rule 4: The library: only what stands here");
        CHECK.due("a package line", code.contains("package "), false);
        Matcher imports = Pattern.compile("(?m)^import (.*);$").matcher(code);
        while (imports.find()) {
            CHECK.due("an import", imports.group(1), "java.util.Arrays");
        }
        Matcher calls = Pattern.compile("\\bArrays\\.(?!fill\\(|copyOf\\(|copyOfRange\\()\\w*").matcher(code);
        CHECK.due("another function of Arrays", calls.find(), false);
        CHECK.sentence("rules 2 to 6, 9 and 13, and nothing is thrown, for the document asks for no exception");
        for (String word : NOT_THERE) {
            CHECK.due("there is " + word, Pattern.compile(word).matcher(code).find(), false);
        }
    }

    private static void madeWithTheObject(List<String> lines) {
        CHECK.sentence("rule 12: keep it small (so all is made with the object)");
        int from = lines.indexOf("    public TuneSetter() {");
        int to = from;
        while (!lines.get(to).equals("    }")) {
            to++;
        }
        for (int i = 0; i < lines.size(); i++) {
            String line = lines.get(i);
            boolean ofField = line.matches(" {8}(private )?final [\\w\\[\\]]+ \\w+ = new .*;");
            boolean made = line.contains("new ") && !ofField && (i < from || i > to);
            CHECK.due("made in a method, line " + (i + 1), made, false);
        }
    }

    private static void shortMethods(List<String> lines) {
        CHECK.sentence("rule 11: Methods stay short (some sixty lines)");
        for (int from = 0; from < lines.size(); from++) {
            Matcher head = Pattern.compile("( {4}| {8})\\w[^=]*\\) \\{").matcher(lines.get(from));
            if (head.matches()) {
                int to = from;
                while (!lines.get(to).equals(head.group(1) + "}")) {
                    to++;
                }
                CHECK.due("longer than sixty lines: " + lines.get(from).strip(), to - from > 60, false);
            }
        }
    }

    private static void fields(Class<?> one) {
        int own = 0;
        for (Field field : one.getDeclaredFields()) {
            if (!Modifier.isStatic(field.getModifiers())) {
                own++;
                continue;
            }
            CHECK.sentence("rule 5: Static fields are final: constants .. arrays of int, long, char or byte");
            CHECK.due(field + " is final", Modifier.isFinal(field.getModifiers()), true);
            CHECK.due(field + " is of a type that may be", STATIC_TYPES.contains(field.getType()), true);
        }
        CHECK.sentence("rule 11: a class some twenty fields beside its constants");
        CHECK.due("more than twenty fields in " + one, own > 20, false);
    }

    private static void parameters(Class<?> one) {
        CHECK.sentence("rule 11: A method takes at most seven parameters");
        for (Method method : one.getDeclaredMethods()) {
            CHECK.due("more than seven of " + method, method.getParameterCount() > 7, false);
        }
    }
}
