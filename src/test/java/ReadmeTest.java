import java.io.IOException;
import java.lang.reflect.InvocationTargetException;
import java.lang.reflect.Method;
import java.nio.file.Files;
import java.nio.file.Path;
import java.util.Set;
import java.util.TreeSet;
import java.util.regex.Matcher;
import java.util.regex.Pattern;

/** Runs the example of README.md, line by line: each answer is the one told behind the call. */
public final class ReadmeTest {
    private static final Pattern MADE = Pattern.compile("FiveLands x = new FiveLands\\(\\);");
    private static final Pattern TELL = Pattern.compile("tell\\(x, (-?\\d+), (-?\\d+), \"(.*)\"\\); *// (-?\\d+).*");
    private static final Pattern CALL = Pattern.compile("x\\.(\\w+)\\((.*?)\\); *// (true|false|-?\\d+)\\b.*");
    private static final Pattern STARTS = Pattern.compile("(x\\.|tell\\(|FiveLands x).*");

    public static void main(String[] args) throws IOException, ReflectiveOperationException {
        FiveLands x = null;
        Set<String> used = new TreeSet<>();
        for (String line : Files.readString(Path.of("README.md")).split("\n")) {
            Matcher tell = TELL.matcher(line);
            Matcher call = CALL.matcher(line);
            if (MADE.matcher(line).matches()) {
                x = new FiveLands();
            } else if (tell.matches()) {
                int a = (int) number(tell.group(1));
                int b = (int) number(tell.group(2));
                Tests.due(line, number(tell.group(4)), tell(x, a, b, tell.group(3)));
            } else if (call.matches()) {
                used.add(call.group(1));
                Tests.due(line, number(call.group(3)), answered(x, call.group(1), call.group(2).split(", *")));
            } else {
                Tests.no("a line that is not run: " + line, STARTS.matcher(line).matches());
            }
        }
        used.addAll(Set.of("feed", "end", "text"));
        for (Method m : FiveLands.class.getMethods()) {
            if (m.getDeclaringClass() == FiveLands.class) {
                Tests.yes("the example uses " + m.getName(), used.contains(m.getName()));
            }
        }
        Tests.finish();
    }

    /** As it stands in README.md. */
    static int tell(FiveLands x, int a, int b, String text) {
        for (int i = 0; i < text.length(); i += 20) {
            int[] n = new int[5];
            for (int k = 0; k < 20 && i + k < text.length(); k++) {
                n[k / 4] |= text.charAt(i + k) << 24 - k % 4 * 8;
            }
            x.feed(n[0], n[1], n[2], n[3], n[4]);
        }
        x.end(text.length());
        return x.text(a, b);
    }

    private static long answered(FiveLands x, String name, String[] told)
            throws IllegalAccessException, InvocationTargetException {
        for (Method m : FiveLands.class.getMethods()) {
            if (m.getName().equals(name) && m.getDeclaringClass() == FiveLands.class) {
                Object[] given = new Object[m.getParameterCount()];
                for (int i = 0; i < given.length; i++) {
                    given[i] = value(told[i], m.getParameterTypes()[i]);
                }
                Object got = m.invoke(x, given);
                return got instanceof Boolean ? ((Boolean) got ? 1 : 0) : ((Number) got).longValue();
            }
        }
        return -99;
    }

    private static Object value(String told, Class<?> type) {
        if (type == boolean.class) {
            return Boolean.valueOf(told);
        }
        return type == long.class ? (Object) Long.valueOf(told) : (Object) Integer.valueOf(told);
    }

    private static long number(String told) {
        if (told.equals("true") || told.equals("false")) {
            return told.equals("true") ? 1 : 0;
        }
        return Long.parseLong(told);
    }
}
