import java.io.IOException;
import java.lang.reflect.InvocationTargetException;
import java.lang.reflect.Method;
import java.lang.reflect.Modifier;
import java.nio.file.Files;
import java.nio.file.Path;
import java.util.List;
import java.util.regex.Matcher;
import java.util.regex.Pattern;

/** README.md: its example is answered as it says, its way to append a text works, and no call is left out. */
public final class ReadmeTest {
    private static final Pattern CALL = Pattern.compile("overlay\\.(\\w+)\\((.*)\\); *// (throws )?([-\\w]+).*");
    /** A changed form of the example's lines must not make the test an empty one. */
    private static final int FEWEST_CALLS = 40;

    public static void main(String[] args) throws IOException, ReflectiveOperationException {
        List<String> lines = Files.readAllLines(Path.of("README.md"));
        example(lines);
        namesEveryCall(String.join("\n", lines));
        showsThisDescribe(lines);
        Check.finish();
    }

    private static void example(List<String> lines) throws ReflectiveOperationException {
        PeerOverlay overlay = new PeerOverlay();
        Check.same("README: parse of the example", describe(overlay, String.join("\n", block(lines, "```overlay"))), 0);
        int calls = 0;
        for (String line : lines) {
            Matcher call = CALL.matcher(line);
            if (call.matches()) {
                calls++;
                String due = (call.group(3) == null ? "" : call.group(3)) + number(call.group(4));
                String got = answer(overlay, call.group(1), call.group(2));
                if (!got.equals(due)) {
                    Check.report("README: " + line + " -> " + got);
                }
            }
        }
        Check.yes("README: the example's calls were found", calls >= FEWEST_CALLS);
    }

    /** The lines of the first block that begins like this. */
    private static List<String> block(List<String> lines, String fence) {
        int begin = lines.indexOf(fence) + 1;
        int end = begin + lines.subList(begin, lines.size()).indexOf("```");
        return lines.subList(begin, end);
    }

    private static String number(String written) {
        switch (written) {
            case "NONE": return String.valueOf(PeerOverlay.NONE);
            case "DIRECT": return String.valueOf(PeerOverlay.DIRECT);
            default: return written;
        }
    }

    private static String answer(PeerOverlay overlay, String name, String arguments) throws ReflectiveOperationException {
        Method method = method(name);
        String[] written = arguments.isEmpty() ? new String[0] : arguments.split(", ");
        Object[] values = new Object[written.length];
        for (int at = 0; at < written.length; at++) {
            boolean truth = method.getParameterTypes()[at] == boolean.class;
            values[at] = truth ? (Object) Boolean.valueOf(written[at]) : Integer.valueOf(written[at]);
        }
        try {
            return String.valueOf(method.invoke(overlay, values));
        } catch (InvocationTargetException thrown) {
            return "throws " + thrown.getCause().getClass().getSimpleName();
        }
    }

    private static Method method(String name) {
        for (Method method : PeerOverlay.class.getDeclaredMethods()) {
            if (method.getName().equals(name) && Modifier.isPublic(method.getModifiers())) {
                return method;
            }
        }
        throw new IllegalArgumentException(name);
    }

    private static void namesEveryCall(String readme) {
        for (Method method : PeerOverlay.class.getDeclaredMethods()) {
            if (Modifier.isPublic(method.getModifiers())) {
                Check.yes("README names " + method.getName(), readme.contains("`" + method.getName() + "`"));
            }
        }
    }

    /** What README.md shows is what the example above was described with. */
    private static void showsThisDescribe(List<String> lines) throws IOException {
        String source = Files.readString(Path.of("src/test/java/ReadmeTest.java"));
        for (String line : block(lines, "```java")) {
            Check.yes("ReadmeTest has README's line " + line, source.contains(line.strip()));
        }
    }

    private static int describe(PeerOverlay overlay, String text) {
        int[] fours = new int[(text.length() + 19) / 20 * 5];
        for (int at = 0; at < text.length(); at++) {
            fours[at / 4] |= (text.charAt(at) & 255) << 24 - at % 4 * 8;
        }
        for (int at = 0; at < fours.length; at += 5) {
            overlay.append(fours[at], fours[at + 1], fours[at + 2], fours[at + 3], fours[at + 4]);
        }
        return overlay.parse(text.length());
    }
}
