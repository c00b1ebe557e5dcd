import java.io.IOException;
import java.lang.reflect.Field;
import java.lang.reflect.Method;
import java.lang.reflect.Modifier;
import java.nio.charset.StandardCharsets;
import java.nio.file.Files;
import java.nio.file.Path;
import java.util.regex.Matcher;
import java.util.regex.Pattern;

/** Those rules of LANGUAGE.md, and of rows that are never overrun, that can be read off the source. */
public final class LanguageTest {
    private static final Check CHECK = new Check();
    private static final String[] BARRED = {"\\bthrow\\b", "\\bthrows\\b", "\\btry\\b", "\\bcatch\\b",
            "\\bsynchronized\\b", "\\bassert\\b", "->", "::", "Exact\\(", "\\bObject\\b", "\\bvar\\b",
            "\\bwhile\\b", "\\bprotected\\b", "\\bvolatile\\b", "@", "\\bpackage\\b", "\\bfloat\\b", "\\bdouble\\b",
            "\\bSystem\\b", "\\bequals\\b", "\\bhashCode\\b", "\\btoString\\b", "[^ -~\\n]",
            "\\bclass\\b[^{]*\\bextends\\b"};

    public static void main(String[] args) throws IOException {
        String file = args.length > 0 ? args[0] : "src/main/java/LineToWreck.java";
        String source = Files.readString(Path.of(file), StandardCharsets.UTF_8);
        String code = source.replaceAll("(?s)/\\*.*?\\*/", "").replaceAll("//[^\\n]*", "");
        for (String pattern : BARRED) {
            CHECK.due("places with " + pattern, places(pattern, code), 0);
        }
        CHECK.due("imports", places("\\bimport\\b", code), 1);
        CHECK.due("classes, 12 at most", places("\\b(class|record|enum|interface) [A-Z]", code) <= 12 ? 1 : 0, 1);
        CHECK.due("classes inside that are not private static final",
                places("(?<!private static final )class [A-Z]", code.replace("public final class LineToWreck", "")), 0);
        CHECK.due("rows used by a place, but for the four that look first",
                places("\\w\\[[^\\]]", code.replaceAll("new (int|long)\\[", "")), 4);
        CHECK.due("divisors that may be 0: those of commonDivisor and inLowestTerms", places("[/%]=? *[a-zA-Z]", code
                .replace("/ STAGE_MINUTES", "")), 2);
        CHECK.due("the longest method, 60 lines at most", longestMethod(code) <= 60 ? 1 : 0, 1);
        for (Class<?> inside : LineToWreck.class.getDeclaredClasses()) {
            sizes(inside);
            namesOfTheFace(inside);
        }
        sizes(LineToWreck.class);
        CHECK.end("LanguageTest");
    }

    private static void sizes(Class<?> of) {
        int fields = 0;
        for (Field field : of.getDeclaredFields()) {
            fields += Modifier.isStatic(field.getModifiers()) ? 0 : 1;
        }
        CHECK.due("fields of " + of.getName() + ", 20 at most", Math.max(fields, 20), 20);
        for (Method method : of.getDeclaredMethods()) {
            CHECK.due("parameters of " + method + ", 7 at most", Math.max(method.getParameterCount(), 7), 7);
        }
    }

    private static void namesOfTheFace(Class<?> inside) {
        for (Method method : inside.getDeclaredMethods()) {
            int same = 0;
            for (Method face : LineToWreck.class.getMethods()) {
                boolean own = face.getDeclaringClass() == LineToWreck.class;
                same += own && Modifier.isPrivate(method.getModifiers()) && face.getName().equals(method.getName()) ? 1 : 0;
            }
            CHECK.due("private methods by a public one's name: " + method, same, 0);
        }
    }

    private static int places(String pattern, String code) {
        Matcher matcher = Pattern.compile(pattern).matcher(code);
        int places = 0;
        while (matcher.find()) {
            places++;
        }
        return places;
    }

    /** By the indent: a method ends where a brace closes as far in as its head began. */
    private static int longestMethod(String code) {
        int longest = 0;
        String[] lines = code.split("\n");
        for (int i = 0; i < lines.length; i++) {
            if (lines[i].matches("( {4}| {8})\\S.*\\) \\{") && !lines[i].matches(" *(if|for|switch|\\}).*")) {
                String close = lines[i].replaceAll("\\S.*", "") + "}";
                int end = i;
                while (end < lines.length && !lines[end].equals(close)) {
                    end++;
                }
                longest = Math.max(longest, end - i + 1);
            }
        }
        return longest;
    }
}
