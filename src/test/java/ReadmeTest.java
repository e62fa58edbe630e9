import java.io.IOException;
import java.lang.reflect.Method;
import java.nio.file.Files;
import java.nio.file.Path;
import java.util.Arrays;
import java.util.regex.Matcher;
import java.util.regex.Pattern;

/** The calls that README.md shows answer what it says beside them. */
public final class ReadmeTest {
    private static final Pattern CALL = Pattern.compile("(?m)^trace\\.(\\w+)\\(([^)]*)\\); *// (-?\\d+)");

    public static void main(String[] args) throws IOException, ReflectiveOperationException {
        String text = Files.readString(Path.of("README.md"));
        Matcher calls = CALL.matcher(text);
        RoadTrace trace = new RoadTrace();
        int count = 0;
        while (calls.find()) {
            count++;
            String numbers = calls.group(2);
            Object[] given = numbers.isEmpty() ? new Object[0]
                : Arrays.stream(numbers.split(", ")).map(Integer::valueOf).toArray();
            Class<?>[] types = new Class<?>[given.length];
            Arrays.fill(types, int.class);
            Method called = RoadTrace.class.getMethod(calls.group(1), types);
            Check.due(calls.group(1) + "(" + numbers + ")", (int) called.invoke(trace, given),
                Integer.parseInt(calls.group(3)));
        }
        Check.due("lines with a call", count, text.lines().filter(line -> line.startsWith("trace.")).count());
        Check.isTrue("each method is shown", Arrays.stream(RoadTrace.class.getDeclaredMethods())
            .filter(m -> java.lang.reflect.Modifier.isPublic(m.getModifiers()))
            .allMatch(m -> text.contains("\ntrace." + m.getName() + "(")));
        Check.end();
    }
}
