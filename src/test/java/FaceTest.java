import java.io.IOException;
import java.lang.reflect.Constructor;
import java.lang.reflect.Field;
import java.lang.reflect.Method;
import java.lang.reflect.Modifier;
import java.nio.file.Files;
import java.nio.file.Path;
import java.util.ArrayList;
import java.util.Arrays;
import java.util.HashSet;
import java.util.List;
import java.util.Set;
import java.util.TreeSet;
import java.util.regex.Matcher;
import java.util.regex.Pattern;

/** The public face, with the exceptions that the document declares, and those rules of the language that a test can see. */
public final class FaceTest {
    private static final String INDEX = " IndexOutOfBoundsException";
    private static final String ARGUMENT = " IllegalArgumentException";
    private static final String STATE = " IllegalStateException";
    private static final String[] METHODS = {
        "int append(int,int,int,int,int)", "int parse(int)" + ARGUMENT, "int errorPosition()", "int peerCount()",
        "int tick()", "boolean knows(int,int)" + INDEX, "int delay(int,int)" + INDEX,
        "int introductionsNeeded(int,int)" + INDEX + ARGUMENT, "int introducer(int,int)" + INDEX + ARGUMENT,
        "int load(int)" + INDEX, "int bestRelay(int,int)" + INDEX + ARGUMENT,
        "int relayScore(int,int,int)" + INDEX + ARGUMENT + STATE, "int sessions()",
        "int session(int,int)" + INDEX + ARGUMENT, "int path(int)" + INDEX, "int oldPath(int)" + INDEX,
        "int successes(int)" + INDEX, "int messages(int,int)" + INDEX + ARGUMENT, "int lastValue(int)" + INDEX + STATE,
        "int digest(int)" + INDEX, "int key(int)" + INDEX, "int oldestKey(int)" + INDEX, "int keyStart(int)" + INDEX,
        "int ticksToDeliver(int)" + INDEX, "int ticksToDirect(int)" + INDEX, "int run(int)" + ARGUMENT + STATE,
        "int introduce(int,int,int)" + INDEX + ARGUMENT + STATE, "int open(int,int)" + INDEX + ARGUMENT + STATE,
        "int send(int,int)" + INDEX + STATE, "int setLink(int,int,boolean)" + INDEX + ARGUMENT + STATE,
        "int close(int)" + INDEX + STATE, "int undo()", "boolean saveSnapshot(int)" + INDEX,
        "int restoreSnapshot(int)" + INDEX + STATE};

    private FaceTest() {
    }

    public static void main(String[] args) throws IOException {
        constants();
        members();
        names();
        source();
        Check.finish();
    }

    private static void constants() {
        Check.same("NONE", PeerOverlay.NONE, -1);
        Check.same("DIRECT", PeerOverlay.DIRECT, 100);
    }

    private static void members() {
        Check.yes("public and final", PeerOverlay.class.getModifiers() == (Modifier.PUBLIC | Modifier.FINAL));
        Set<String> got = new TreeSet<>();
        for (Method method : PeerOverlay.class.getDeclaredMethods()) {
            if (!Modifier.isPrivate(method.getModifiers())) {
                got.add(describe(method));
            }
        }
        Set<String> due = new TreeSet<>(Arrays.asList(METHODS));
        if (!got.equals(due)) {
            Check.report("the methods are " + got + ", due is " + due);
        }
        for (Field field : PeerOverlay.class.getDeclaredFields()) {
            boolean constant = List.of("NONE", "DIRECT").contains(field.getName());
            Check.yes("private: " + field, constant || Modifier.isPrivate(field.getModifiers()));
        }
        Constructor<?>[] constructors = PeerOverlay.class.getDeclaredConstructors();
        Check.same("constructors", constructors.length, 1);
        Check.same("its arguments", constructors[0].getParameterCount(), 0);
        Check.yes("it is public", Modifier.isPublic(constructors[0].getModifiers()));
    }

    private static String describe(Method method) {
        List<String> arguments = new ArrayList<>();
        for (Class<?> type : method.getParameterTypes()) {
            arguments.add(type.getSimpleName());
        }
        StringBuilder text = new StringBuilder(method.getReturnType().getSimpleName() + " " + method.getName()
                + "(" + String.join(",", arguments) + ")");
        for (Class<?> thrown : method.getExceptionTypes()) {
            text.append(' ').append(thrown.getSimpleName());
        }
        return text.toString();
    }

    /** Rules 1, 5 and 11 over the class and those inside it. */
    private static void names() {
        Set<String> open = new HashSet<>();
        for (Method method : PeerOverlay.class.getDeclaredMethods()) {
            if (Modifier.isPublic(method.getModifiers())) {
                open.add(method.getName());
            }
        }
        List<Class<?>> all = new ArrayList<>(List.of(PeerOverlay.class.getDeclaredClasses()));
        Check.yes("at most twelve classes", all.size() < 12);
        all.add(PeerOverlay.class);
        for (Class<?> type : all) {
            Check.yes("static: " + type, type == PeerOverlay.class || Modifier.isStatic(type.getModifiers()));
            int fields = 0;
            for (Field field : type.getDeclaredFields()) {
                boolean fixed = Modifier.isStatic(field.getModifiers());
                Check.yes("final: " + field, !fixed || Modifier.isFinal(field.getModifiers()));
                fields += fixed ? 0 : 1;
            }
            Check.yes("at most twenty fields: " + type, fields <= 20);
            for (Method method : type.getDeclaredMethods()) {
                Check.yes("at most seven arguments: " + method, method.getParameterCount() <= 7);
                Check.no("the name of a public one: " + method,
                        open.contains(method.getName()) && !Modifier.isPublic(method.getModifiers()));
            }
        }
    }

    private static void source() throws IOException {
        String text = Files.readString(Path.of("src/main/java/PeerOverlay.java"));
        for (String banned : List.of("import ", "package ", "->", "::", "catch", "finally", "synchronized", "assert ",
                "Exact(", "Object", "System.out", "NullPointer", "ArrayIndexOutOf")) {
            Check.no("the source has " + banned, text.contains(banned));
        }
        Matcher called = Pattern.compile("\\b(System|Math|Integer|Long|Arrays)\\.(\\w+)").matcher(text);
        while (called.find()) {
            Check.yes("allowed: " + called.group(),
                    List.of("System.arraycopy", "Math.floorMod", "Math.min", "Integer.bitCount").contains(called.group()));
        }
        Matcher thrown = Pattern.compile("throw (.*)").matcher(text);
        while (thrown.find()) {
            Check.yes("rule 6: " + thrown.group(), thrown.group(1).matches(
                    "new (IllegalState|IllegalArgument|IndexOutOfBounds)Exception\\(\"[^\"]*\"\\);"));
        }
        methodLengths(text.split("\n"));
    }

    private static void methodLengths(String[] lines) {
        int start = -1;
        for (int at = 0; at < lines.length; at++) {
            if (lines[at].matches(" +(private|public) .*\\{") && !lines[at].contains(" class ")) {
                start = at;
            }
            if (start >= 0 && lines[at].equals(lines[start].replaceAll("\\S.*", "") + "}")) {
                Check.yes("at most sixty lines: " + lines[start], at - start < 60);
                start = -1;
            }
        }
    }
}
