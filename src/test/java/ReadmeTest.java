import java.io.IOException;
import java.nio.charset.StandardCharsets;
import java.nio.file.Files;
import java.nio.file.Path;
import java.util.regex.Matcher;
import java.util.regex.Pattern;

/** The answers that README.md tells are those of the class. */
public final class ReadmeTest {
    private static final Check CHECK = new Check();
    private static final Pattern NIGHT = Pattern.compile("String night = \"([^\"]*)\";");
    private static final Pattern CALL = Pattern.compile("(?m)^x\\.(\\w+)\\(([-\\w, ]*)\\);\\s*// (-?\\d+|[A-Z]+)\\b");

    public static void main(String[] args) throws IOException, ReflectiveOperationException {
        String readme = Files.readString(Path.of("README.md"), StandardCharsets.UTF_8);
        Matcher night = NIGHT.matcher(readme);
        CHECK.due("a night is told in README.md", night.find() ? 1 : 0, 1);
        LineToWreck x = Check.page(new LineToWreck(), night.group(1));
        CHECK.due("calls without an answer", readme.lines().filter(line -> line.startsWith("x.")
                && !CALL.matcher(line).find()).count(), 0);
        Matcher call = CALL.matcher(readme);
        while (call.find()) {
            CHECK.due("README.md: " + call.group(1) + "(" + call.group(2) + ")", answer(x, call), due(call.group(3)));
        }
        CHECK.end("ReadmeTest");
    }

    private static long answer(LineToWreck x, Matcher call) throws ReflectiveOperationException {
        String[] told = call.group(2).isEmpty() ? new String[0] : call.group(2).split(", ");
        Class<?>[] types = new Class<?>[told.length];
        Object[] values = new Object[told.length];
        for (int i = 0; i < told.length; i++) {
            boolean truth = told[i].equals("true") || told[i].equals("false");
            types[i] = truth ? boolean.class : int.class;
            values[i] = truth ? (Object) Boolean.valueOf(told[i]) : (Object) Integer.valueOf(told[i]);
        }
        return ((Number) LineToWreck.class.getMethod(call.group(1), types).invoke(x, values)).longValue();
    }

    private static long due(String told) throws ReflectiveOperationException {
        return told.matches("-?\\d+") ? Long.parseLong(told) : LineToWreck.class.getField(told).getInt(null);
    }
}
