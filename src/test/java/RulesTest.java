import java.io.IOException;
import java.lang.reflect.Constructor;
import java.lang.reflect.Field;
import java.lang.reflect.InvocationTargetException;
import java.lang.reflect.Method;
import java.lang.reflect.Modifier;
import java.nio.file.Files;
import java.nio.file.Path;
import java.util.ArrayList;
import java.util.Arrays;
import java.util.Collections;
import java.util.HashSet;
import java.util.LinkedHashMap;
import java.util.List;
import java.util.Map;
import java.util.Set;
import java.util.regex.Matcher;
import java.util.regex.Pattern;

/** The class's face as the document tells it, and what of LANGUAGE.md can be seen from outside. */
final class RulesTest {
    private static final String ARGUMENT = " IllegalArgumentException";
    private static final String INDEX = " IndexOutOfBoundsException";
    private static final String STATE = " IllegalStateException";

    private static final String[] FACE = {
        "int begin(int)" + ARGUMENT,
        "int say(int,int,int)" + ARGUMENT + STATE,
        "int look(int,int)" + INDEX,
        "int aloud(int)" + INDEX + STATE,
        "boolean whisper(int,int)" + INDEX,
        "int note(int,int)" + INDEX + ARGUMENT,
        "int ask(int,int)" + INDEX + ARGUMENT,
        "int flip(int)" + INDEX,
        "int call()",
        "boolean isTrue(int,int)" + INDEX,
        "long truth(int)" + INDEX,
        "int of(int,int)" + INDEX + ARGUMENT,
        "long alike(int,int)" + INDEX,
        "int ofGuard(int,int)" + INDEX + ARGUMENT,
        "int depth(int,int)" + INDEX + ARGUMENT,
        "int night(int)" + ARGUMENT,
        "long possible()",
        "String text(int)" + INDEX,
        "double wit(int)" + INDEX,
        "int notes(int,int)" + INDEX,
        "int rounds(int,int)" + INDEX + ARGUMENT,
        "int wouldTell(int)" + INDEX,
        "int bestNote(int,int)" + INDEX,
        "boolean isSound()",
        "long digest()"
    };

    /** What rules 1, 4, 6 and 10 leave out, as far as this program has no use for what they allow. */
    private static final String[] LEFT_OUT = {
        "package ", "import ", "->", "::", "try ", "catch ", "finally", "Exact(", "synchronized", "assert ",
        "System.out", "System.exit", "Thread", "Random", "new Object", ".class", "getClass", "hashCode", "instanceof"
    };

    /** What the program has from the library (rule 4); a class's name ahead of a point is the library's. */
    private static final Set<String> LIBRARY = Set.of("Long.bitCount", "Integer.bitCount", "Math.max", "System.arraycopy");

    private static final Pattern OF_LIBRARY = Pattern.compile("\\b([A-Z][a-z]\\w*\\.\\w+)");
    private static final Pattern METHOD = Pattern.compile("( {4}| {8})(?:(?:public|private|static) )*(?:[\\w\\[\\]]+ )?(\\w+)\\(([^)]*)\\).*\\{");
    private static final Pattern CALLED = Pattern.compile("\\b(\\w+)\\(");

    private static final int MOST_LINES = 60;
    private static final int MOST_PARAMETERS = 7;
    private static final int MOST_CALLS_DEEP = 8;

    private static final Checks CHECKS = new Checks("RulesTest");

    public static void main(String[] args) throws IOException, IllegalAccessException {
        String path = args.length > 0 ? args[0] : "src/main/java/NightdeskRota.java";
        face();
        nothingElseIsSeen();
        namesAreNotTaken();
        onlyWhatIsDeclaredIsThrown();
        source(path);
        methods(Files.readAllLines(Path.of(path)));
        CHECKS.ended();
    }

    private static void face() {
        List<String> due = new ArrayList<>(List.of(FACE));
        List<String> got = new ArrayList<>();
        for (Method method : NightdeskRota.class.getDeclaredMethods()) {
            if (Modifier.isPublic(method.getModifiers())) {
                got.add(signature(method));
            }
        }
        Collections.sort(due);
        Collections.sort(got);
        CHECKS.same("the public methods", got, due);
        int modifiers = NightdeskRota.class.getModifiers();
        CHECKS.same("public and final", Modifier.isPublic(modifiers) && Modifier.isFinal(modifiers), true);
        Constructor<?>[] constructors = NightdeskRota.class.getDeclaredConstructors();
        CHECKS.same("one constructor", constructors.length, 1);
        CHECKS.same("it is public", Modifier.isPublic(constructors[0].getModifiers()), true);
        CHECKS.same("without parameters", constructors[0].getParameterCount(), 0);
    }

    private static String signature(Method method) {
        StringBuilder signs = new StringBuilder();
        signs.append(method.getReturnType().getSimpleName()).append(' ').append(method.getName()).append('(');
        for (Class<?> type : method.getParameterTypes()) {
            signs.append(signs.charAt(signs.length() - 1) == '(' ? "" : ",").append(type.getSimpleName());
        }
        signs.append(')');
        for (Class<?> type : method.getExceptionTypes()) {
            signs.append(' ').append(type.getSimpleName());
        }
        return signs.toString();
    }

    private static void nothingElseIsSeen() {
        for (Method method : NightdeskRota.class.getDeclaredMethods()) {
            int modifiers = method.getModifiers();
            CHECKS.same(method + " is of the face or private",
                    Modifier.isPublic(modifiers) && !Modifier.isStatic(modifiers) || Modifier.isPrivate(modifiers), true);
        }
        for (Field field : NightdeskRota.class.getDeclaredFields()) {
            CHECKS.same(field + " is private", Modifier.isPrivate(field.getModifiers()), true);
        }
        for (Class<?> one : everyClass()) {
            for (Field field : one.getDeclaredFields()) {
                boolean isStatic = Modifier.isStatic(field.getModifiers());
                CHECKS.same(field + " is final if it is static", !isStatic || Modifier.isFinal(field.getModifiers()), true);
            }
            boolean inside = one != NightdeskRota.class;
            CHECKS.same(one + " is static if it is inside", !inside || Modifier.isStatic(one.getModifiers()), true);
        }
    }

    private static List<Class<?>> everyClass() {
        List<Class<?>> all = new ArrayList<>(List.of(NightdeskRota.class.getDeclaredClasses()));
        all.add(NightdeskRota.class);
        return all;
    }

    private static Set<String> faceNames() {
        Set<String> face = new HashSet<>();
        for (String one : FACE) {
            face.add(one.substring(one.indexOf(' ') + 1, one.indexOf('(')));
        }
        return face;
    }

    private static void namesAreNotTaken() {
        Set<String> face = faceNames();
        for (Class<?> one : everyClass()) {
            for (Method method : one.getDeclaredMethods()) {
                boolean ofFace = one == NightdeskRota.class && Modifier.isPublic(method.getModifiers());
                CHECKS.same(method + " bears no name of the face", ofFace || !face.contains(method.getName()), true);
            }
        }
    }

    /** Every call with every argument that lies on an edge, on an empty, a used and a full night. */
    private static void onlyWhatIsDeclaredIsThrown() throws IllegalAccessException {
        int[] edges = {Integer.MIN_VALUE, -64, -1, 0, 1, 5, 6, 7, 8, 12, 13, 39, 40, 41, 63, 64, Integer.MAX_VALUE};
        for (int sentences = 0; sentences <= 40; sentences += 10) {
            for (Method method : NightdeskRota.class.getDeclaredMethods()) {
                if (!Modifier.isPublic(method.getModifiers())) {
                    continue;
                }
                NightdeskRota night = used(sentences);
                int parameters = method.getParameterCount();
                int many = 1;
                for (int n = 0; n < parameters; n++) {
                    many *= edges.length;
                }
                for (int turn = 0; turn < many; turn++) {
                    Object[] args = new Object[parameters];
                    int rest = turn;
                    for (int n = 0; n < parameters; n++) {
                        args[n] = edges[rest % edges.length];
                        rest /= edges.length;
                    }
                    String thrown = thrownBy(method, night, args);
                    if (!thrown.isEmpty()) {
                        CHECKS.same(method.getName() + Arrays.toString(args) + " throws " + thrown, thrown, "what is declared");
                    }
                }
                CHECKS.same(method.getName() + " throws only what it declares", night.isSound(), true);
            }
        }
    }

    private static NightdeskRota used(int sentences) {
        NightdeskRota night = new NightdeskRota();
        night.begin(63);
        for (int n = 0; n < sentences; n++) {
            int kind = n % 8;
            night.say(kind, kind == 0 || kind == 4 ? n % 6 : kind < 4 ? n - 1 : n + 1, n - 1);
            night.look(n % 6, n % 5);
        }
        return night;
    }

    private static String thrownBy(Method method, NightdeskRota night, Object[] args) throws IllegalAccessException {
        try {
            method.invoke(night, args);
        } catch (InvocationTargetException e) {
            for (Class<?> declared : method.getExceptionTypes()) {
                if (declared == e.getCause().getClass()) {
                    return "";
                }
            }
            return e.getCause().getClass().getName();
        }
        return "";
    }

    private static void source(String path) throws IOException {
        String source = Files.readString(Path.of(path));
        for (String word : LEFT_OUT) {
            CHECKS.same("the source has '" + word + "'", source.contains(word), false);
        }
        Matcher ofLibrary = OF_LIBRARY.matcher(source);
        while (ofLibrary.find()) {
            CHECKS.same(ofLibrary.group(1) + " is of the library allowed", LIBRARY.contains(ofLibrary.group(1)), true);
        }
        for (int at = 0; at < source.length(); at++) {
            if (source.charAt(at) > 126) {
                CHECKS.same("the source's sign at " + at, (int) source.charAt(at), "a plain one");
            }
        }
    }

    /** Rule 11, of the source as it is laid out: a method's last line is the bracket below its first sign. */
    private static void methods(List<String> lines) {
        Map<String, String> bodies = new LinkedHashMap<>();
        for (int at = 0; at < lines.size(); at++) {
            Matcher method = METHOD.matcher(lines.get(at));
            if (!method.matches()) {
                continue;
            }
            String name = method.group(2);
            StringBuilder body = new StringBuilder();
            int first = at;
            while (!lines.get(at).equals(method.group(1) + "}")) {
                at++;
                body.append(lines.get(at)).append('\n');
            }
            CHECKS.same(name + " is short", at - first < MOST_LINES, true);
            CHECKS.same(name + " takes few parameters", method.group(3).split(",").length <= MOST_PARAMETERS, true);
            CHECKS.same(name + " is the only one of its name", bodies.put(name, body.toString()) == null, true);
        }
        CHECKS.same("the whole face is among the methods", bodies.keySet().containsAll(faceNames()), true);
        for (String name : bodies.keySet()) {
            CHECKS.same(name + " calls at most eight deep", deep(bodies, name, new ArrayList<>()) <= MOST_CALLS_DEEP, true);
        }
    }

    /** How many methods stand open at once, this one too; one that calls itself counts once. */
    private static int deep(Map<String, String> bodies, String name, List<String> open) {
        if (!bodies.containsKey(name) || open.contains(name)) {
            return 0;
        }
        open.add(name);
        int deepest = 0;
        Matcher called = CALLED.matcher(bodies.get(name));
        while (called.find()) {
            deepest = Math.max(deepest, deep(bodies, called.group(1), open));
        }
        open.remove(name);
        return deepest + 1;
    }
}
