import java.lang.reflect.InvocationTargetException;
import java.lang.reflect.Method;
import java.lang.reflect.Modifier;
import java.nio.charset.StandardCharsets;
import java.util.ArrayList;
import java.util.Arrays;
import java.util.Comparator;
import java.util.HashMap;
import java.util.List;
import java.util.Map;
import java.util.Random;
import java.util.TreeMap;

/** All promises: random runs of calls, always the same ones, on the class and on the model. */
public final class RandomRunsTest {
    private static final int MOST_CALLS = 512;
    private static final List<Method> FACE = face();
    private static final Map<String, Method> TWINS = twins();
    private static final List<String> CHANGES = List.of("run", "introduce", "open", "send", "setLink", "close");
    /** How often each call answered, and how often it threw what. */
    private static final TreeMap<String, Integer> SEEN = new TreeMap<>();

    private final Random random;
    private final int seed;
    private final PeerOverlay overlay = new PeerOverlay();
    private final Model model = new Model();
    private final List<String> log = new ArrayList<>();
    private int appended = 0;
    private boolean wrong = false;

    private RandomRunsTest(int seed) {
        this.seed = seed;
        random = new Random(seed);
    }

    public static void main(String[] args) throws ReflectiveOperationException {
        int runs = args.length > 0 ? Integer.parseInt(args[0]) : 300;
        for (int seed = 0; seed < runs; seed++) {
            new RandomRunsTest(seed).go();
            new RandomRunsTest(seed).readTexts();
        }
        checkCoverage();
        if (args.length > 0) {
            SEEN.forEach((what, times) -> System.out.println(what + " " + times));
        }
        Check.finish();
    }

    private static List<Method> face() {
        List<Method> methods = new ArrayList<>();
        for (Method method : PeerOverlay.class.getDeclaredMethods()) {
            if (Modifier.isPublic(method.getModifiers())) {
                methods.add(method);
            }
        }
        methods.sort(Comparator.comparing(Method::getName));
        return methods;
    }

    private static Map<String, Method> twins() {
        Map<String, Method> found = new HashMap<>();
        for (Method method : Model.class.getDeclaredMethods()) {
            if (Modifier.isPublic(method.getModifiers())) {
                found.put(method.getName(), method);
            }
        }
        return found;
    }

    /** A test that never reaches an answer proves nothing about it. */
    private static void checkCoverage() {
        for (Method method : FACE) {
            expectOften(method.getName() + " answers");
            for (Class<?> thrown : method.getExceptionTypes()) {
                expectOften(method.getName() + " throws " + thrown.getSimpleName());
            }
        }
        for (int code = 0; code <= 5; code++) {
            expectOften("code " + code);
        }
    }

    private static void expectOften(String what) {
        Check.yes("often enough: " + what, SEEN.getOrDefault(what, 0) >= 10);
    }

    private void go() throws ReflectiveOperationException {
        if (random.nextInt(40) > 0) {
            feed(text());
        }
        while (!wrong && log.size() < MOST_CALLS) {
            if (random.nextInt(400) == 0) {
                feed(random.nextBoolean() ? text() : spoiled(text()));
            } else {
                Method method = choose();
                call(method, arguments(method));
            }
        }
    }

    private void readTexts() throws ReflectiveOperationException {
        for (int times = 0; times < 12 && !wrong; times++) {
            feed(random.nextInt(6) == 0 ? text() : spoiled(text()));
            compareAll("a parse");
        }
    }

    private Method choose() {
        if (random.nextInt(3) > 0) {
            return method(List.of("send", "send", "run", "setLink", "setLink", "open", "introduce").get(random.nextInt(7)));
        }
        Method method = FACE.get(random.nextInt(FACE.size()));
        // These would throw away too often what the other calls have built.
        boolean destroys = List.of("parse", "restoreSnapshot").contains(method.getName())
                || isLong() && method.getName().equals("undo");
        return destroys && random.nextInt(isLong() ? 60 : 4) > 0 ? method("tick") : method;
    }

    /** A few runs are long enough to come to the last tick. */
    private boolean isLong() {
        return seed % 20 == 0;
    }

    private Object[] arguments(Method method) {
        int count = method.getParameterCount();
        Object[] arguments = new Object[count];
        String name = method.getName();
        for (int at = 0; at < count; at++) {
            if (method.getParameterTypes()[at] == boolean.class) {
                arguments[at] = random.nextBoolean();
            } else if (name.equals("run")) {
                arguments[at] = ticks();
            } else if (name.equals("send") && at == 1 || name.equals("append")) {
                arguments[at] = random.nextInt();
            } else if (name.equals("parse")) {
                arguments[at] = random.nextInt(60) - 5;
            } else {
                arguments[at] = small(limit(name, at));
            }
        }
        return arguments;
    }

    private int limit(String name, int at) {
        if (name.equals("messages") && at == 1) {
            return 4;
        }
        if (name.endsWith("Snapshot")) {
            return 2;
        }
        boolean ofPeers = List.of("knows", "delay", "introductionsNeeded", "introducer", "load", "bestRelay",
                "relayScore", "session", "introduce", "open", "setLink").contains(name);
        return ofPeers ? Math.max(1, model.peerCount()) : Math.max(1, Integer.bitCount(model.sessions()));
    }

    private int ticks() {
        int choice = random.nextInt(isLong() ? 6 : 40);
        if (isLong() && choice > 1) {
            return 290 + random.nextInt(11);
        }
        if (choice == 0) {
            return random.nextInt(400) - 50;
        }
        return choice < 4 ? 1 + random.nextInt(60) : 1 + random.nextInt(4);
    }

    private int small(int limit) {
        int choice = random.nextInt(60);
        if (choice == 0) {
            return random.nextInt();
        }
        return choice < 3 ? random.nextInt(limit + 4) - 2 : random.nextInt(limit);
    }

    private void feed(byte[] text) throws ReflectiveOperationException {
        int filled = (text.length + 19) / 20 * 20;
        byte[] bytes = Arrays.copyOf(text, filled);
        // What stray appends left in the buffer must go first; as a text it is an error, which changes nothing else.
        if (appended > 0) {
            call(method("parse"), new Object[] {appended});
        }
        for (int at = 0; at < filled; at += 20) {
            Object[] fours = new Object[5];
            for (int n = 0; n < 5; n++) {
                int four = 0;
                for (int k = 0; k < 4; k++) {
                    four = four << 8 | bytes[at + 4 * n + k] & 255;
                }
                fours[n] = four;
            }
            call(method("append"), fours);
        }
        call(method("parse"), new Object[] {text.length});
        call(method("errorPosition"), new Object[0]);
    }

    private static Method method(String name) {
        for (Method method : FACE) {
            if (method.getName().equals(name)) {
                return method;
            }
        }
        throw new IllegalStateException(name);
    }

    private void call(Method method, Object[] arguments) throws ReflectiveOperationException {
        String got = answer(method, overlay, arguments);
        String due = answer(TWINS.get(method.getName()), model, arguments);
        String line = method.getName() + Arrays.toString(arguments) + " -> " + got;
        log.add(line);
        String kind = got.startsWith("throws") ? got.replace("java.lang.", "") : "answers";
        SEEN.merge(method.getName() + " " + kind, 1, Integer::sum);
        if (method.getName().equals("parse") && kind.equals("answers")) {
            SEEN.merge("code " + got, 1, Integer::sum);
            appended = 0;
        }
        if (method.getName().equals("append") && !got.equals("-1")) {
            appended += 20;
        }
        if (!got.equals(due) && !wrong) {
            wrong = true;
            Check.report("run " + seed + ", call " + log.size() + ": " + line + ", due is " + due);
        }
        if (CHANGES.contains(method.getName()) && !wrong && random.nextInt(8) == 0) {
            compareAll(line);
        }
    }

    /** Compares everything that can be asked without a change. */
    private void compareAll(String after) throws ReflectiveOperationException {
        int peers = model.peerCount();
        for (Method method : FACE) {
            String name = method.getName();
            if (CHANGES.contains(name) || name.startsWith("ticksTo") && random.nextInt(6) > 0
                    || List.of("append", "parse", "undo", "saveSnapshot", "restoreSnapshot").contains(name)) {
                continue;
            }
            int limit = limit(name, 0) == 1 && peers > 1 ? 6 : Math.max(6, peers);
            compareAll(method, new Object[method.getParameterCount()], 0, limit, after);
        }
    }

    private void compareAll(Method method, Object[] arguments, int at, int limit, String after)
            throws ReflectiveOperationException {
        if (at == arguments.length) {
            String got = answer(method, overlay, arguments);
            String due = answer(TWINS.get(method.getName()), model, arguments);
            if (!got.equals(due) && !wrong) {
                wrong = true;
                Check.report("run " + seed + ", after call " + log.size() + " " + after + ": " + method.getName()
                        + Arrays.toString(arguments) + " -> " + got + ", due is " + due);
            }
            return;
        }
        for (int value = 0; value < limit; value++) {
            arguments[at] = value;
            compareAll(method, arguments, at + 1, limit, after);
        }
    }

    private static String answer(Method method, Object target, Object[] arguments) throws ReflectiveOperationException {
        try {
            return String.valueOf(method.invoke(target, arguments));
        } catch (InvocationTargetException thrown) {
            return "throws " + thrown.getCause().getClass().getName();
        }
    }

    // ---- texts

    private byte[] text() {
        StringBuilder text = new StringBuilder();
        int peers = random.nextInt(10) == 0 ? random.nextInt(3) : 3 + random.nextInt(6);
        for (int peer = 0; peer < peers; peer++) {
            text.append("peer").append(blank()).append(capacity()).append(' ').append(random.nextInt(10)).append(";");
        }
        if (random.nextInt(3) > 0) {
            text.append("probe ").append(1 + random.nextInt(random.nextInt(4) == 0 ? 20 : 5)).append(' ')
                    .append(1 + random.nextInt(random.nextInt(4) == 0 ? 9 : 3)).append(';');
        }
        if (random.nextInt(3) > 0) {
            text.append("keys ").append(1 + random.nextInt(random.nextInt(4) == 0 ? 99 : 5)).append(';');
        }
        if (random.nextInt(2) > 0) {
            text.append("score ").append(sum(0)).append(';');
        }
        int pairs = 4 + random.nextInt(60);
        for (int pair = 0; pair < pairs && peers > 1; pair++) {
            int a = random.nextInt(peers);
            int b = (a + 1 + random.nextInt(peers - 1)) % peers;
            String statement = random.nextInt(9) < 5
                    ? "link " + a + " " + b + " " + (1 + random.nextInt(random.nextInt(3) == 0 ? 99 : 9)) + ";"
                    : "knows " + a + " " + b + ";";
            if (text.length() + statement.length() <= 600) {
                text.append(statement);
            }
        }
        return text.toString().getBytes(StandardCharsets.ISO_8859_1);
    }

    private String blank() {
        return List.of("", " ", "\n", "  ").get(random.nextInt(4));
    }

    private int capacity() {
        return random.nextInt(3) > 0 ? 1 + random.nextInt(2) : random.nextInt(10);
    }

    private String sum(int depth) {
        StringBuilder sum = new StringBuilder(factor(depth));
        for (int more = random.nextInt(3); more > 0; more--) {
            sum.append(blank()).append("+-*/".charAt(random.nextInt(4))).append(blank()).append(factor(depth));
        }
        return sum.toString();
    }

    private String factor(int depth) {
        int choice = random.nextInt(8);
        if (choice == 0 && depth < 5) {
            return "(" + sum(depth + 1) + ")";
        }
        if (choice < 3) {
            return String.valueOf(random.nextInt(random.nextBoolean() ? 10 : 10000));
        }
        return List.of("first", "second", "load", "capacity", "zones").get(choice - 3);
    }

    /** A text with a few changed, lost or added parts. */
    private byte[] spoiled(byte[] text) {
        StringBuilder spoiled = new StringBuilder(new String(text, StandardCharsets.ISO_8859_1));
        String[] parts = {";", "(", ")", "((((((1))))))", "peer 1 1;", "peer 1 1;peer 1 1;peer 1 1;peer 1 1;", "score (((((((1)))))));", "keys 3;", "probe 2 2;", "score 1;", "0", "9", "a",
            " ", "\n", "?", "-", "link 0 0 1;", "knows 1 1;", "knows 7 0;", "99999", "abcdefghi", "\u00ff"};
        for (int times = 1 + random.nextInt(3); times > 0; times--) {
            int at = random.nextInt(spoiled.length() + 1);
            if (random.nextInt(3) > 0) {
                at = spoiled.lastIndexOf(";", at) + 1;
            }
            if (random.nextInt(3) > 0) {
                spoiled.insert(at, parts[random.nextInt(parts.length)]);
            } else {
                spoiled.delete(at, Math.min(spoiled.length(), at + 1 + random.nextInt(3)));
            }
        }
        spoiled.setLength(Math.min(spoiled.length(), 600));
        return spoiled.toString().getBytes(StandardCharsets.ISO_8859_1);
    }
}
