import java.io.DataInputStream;
import java.io.IOException;
import java.lang.reflect.Constructor;
import java.lang.reflect.Field;
import java.lang.reflect.Method;
import java.lang.reflect.Modifier;
import java.nio.file.Files;
import java.nio.file.Path;
import java.util.Arrays;
import java.util.LinkedHashMap;
import java.util.Map;
import java.util.Set;
import java.util.TreeSet;
import java.util.regex.Matcher;
import java.util.regex.Pattern;

/** The public face of the document, and the rules of LANGUAGE.md that can be read off the class. */
public final class LanguageTest {
    private static final String[] CONSTANTS = {"STATE_QUEUED 1", "STATE_DISPATCHED 2", "STATE_BLOCKED 3", "BAD_URL -1",
        "DUPLICATE -2", "DISALLOWED -3", "FULL -4", "NO_HOST_ROOM -5", "BAD_DELAY -6", "KIND_URL 0", "KIND_HOST 1",
        "KIND_RULE 2", "KIND_BUFFER 3", "F_STATE 0", "F_HOST 1", "F_TIME 2", "F_QUEUED 3", "F_DELAY 4", "F_NEXT 5",
        "F_SENT 6", "COUNT_URLS 0", "COUNT_HOSTS 1", "COUNT_RULES 2", "COUNT_TIME 3", "COUNT_QUEUED 4",
        "COUNT_DISPATCHED 5", "COUNT_BLOCKED 6", "COUNT_URL_CHARS 7", "COUNT_RULE_CHARS 8", "COUNT_MAX_URLS 9",
        "COUNT_DEFAULT_DELAY 10"};
    private static final String[] METHODS = {"public int put[int, int, int, int]", "public void clear[]",
        "public int submit[]", "public int disallow[]", "public int setDelay[int]", "public int tick[int]",
        "public int count[int]", "public int textLength[int, int]", "public int textChar[int, int, int]",
        "public int info[int, int, int]"};
    private static final String BANNED = "import|package|throw|throws|try|catch|finally|synchronized|assert|instanceof"
            + "|null|float|double|String|Math|Integer|System|Arrays|Object|class|interface|enum|record|protected|var"
            + "|equals|hashCode|toString|getClass|clone";

    public static void main(String[] args) throws IOException, IllegalAccessException {
        face();
        fields();
        methods();
        words();
        calls();
        classFile();
        Check.end();
    }

    private static void face() throws IllegalAccessException {
        Set<String> constants = new TreeSet<>();
        for (Field field : CrawlFrontier.class.getDeclaredFields()) {
            if (!Modifier.isPrivate(field.getModifiers())) {
                Check.due("modifiers of " + field, Modifier.toString(field.getModifiers()), "public static final");
                Check.due("type of " + field, field.getType().toString(), "int");
                constants.add(field.getName() + " " + field.getInt(null));
            }
        }
        Check.due("constants", constants.toString(), new TreeSet<>(Arrays.asList(CONSTANTS)).toString());
        Constructor<?>[] constructors = CrawlFrontier.class.getDeclaredConstructors();
        Check.due("constructors", Arrays.toString(constructors), "[public CrawlFrontier(int,int)]");
        Check.due("class", Modifier.toString(CrawlFrontier.class.getModifiers()), "public final");
        Check.due("nested classes", CrawlFrontier.class.getDeclaredClasses().length, 0);
        Check.due("superclass", CrawlFrontier.class.getSuperclass().getName(), "java.lang.Object");
        Check.due("interfaces", CrawlFrontier.class.getInterfaces().length, 0);
    }

    private static boolean isPlain(Class<?> type) {
        return Set.of(int.class, long.class, short.class, byte.class, char.class, boolean.class).contains(type);
    }

    private static void fields() {
        int own = 0;
        for (Field field : CrawlFrontier.class.getDeclaredFields()) {
            Class<?> type = field.getType();
            boolean fits = isPlain(type) || (type.isArray() && isPlain(type.getComponentType()));
            Check.due("plain type of " + field, fits ? 1 : 0, 1);
            if (Modifier.isStatic(field.getModifiers())) {
                boolean constant = Modifier.isFinal(field.getModifiers()) && (type == int.class || type == long.class);
                Check.due("constant " + field, constant ? 1 : 0, 1);
            } else {
                own++;
            }
        }
        Check.due("at most 40 fields", own <= 40 ? 1 : 0, 1);
    }

    private static void methods() {
        Set<String> open = new TreeSet<>();
        Set<String> names = new TreeSet<>();
        for (Method method : CrawlFrontier.class.getDeclaredMethods()) {
            Class<?> answer = method.getReturnType();
            Check.due("answer of " + method, isPlain(answer) || answer == void.class ? 1 : 0, 1);
            Check.due("parameters of " + method, method.getParameterCount() <= 7 ? 1 : 0, 1);
            Check.due("one method named " + method.getName(), names.add(method.getName()) ? 1 : 0, 1);
            if (!Modifier.isPrivate(method.getModifiers())) {
                open.add(Modifier.toString(method.getModifiers()) + " " + answer + " " + method.getName()
                        + Arrays.toString(method.getParameterTypes()));
            }
        }
        Check.due("methods", open.toString(), new TreeSet<>(Arrays.asList(METHODS)).toString());
    }

    private static String code() throws IOException {
        String source = Files.readString(Path.of("src/main/java/CrawlFrontier.java"));
        return source.replaceAll("(?s)/\\*.*?\\*/", "").replaceAll("//.*", "");
    }

    private static void words() throws IOException {
        String code = code();
        code = code.replaceFirst("public final class CrawlFrontier", "");
        Matcher word = Pattern.compile("\\b(" + BANNED + ")\\b").matcher(code);
        while (word.find()) {
            Check.due("word " + word.group(), 1, 0);
        }
        Check.due("arrows and references", code.contains("->") || code.contains("::") ? 1 : 0, 0);
        Matcher made = Pattern.compile(".*\\bnew\\b.*").matcher(code);
        while (made.find()) {
            boolean initialiser = made.group().matches("    private final int\\[\\] \\w+ = new int\\[[A-Z_]+\\];");
            Check.due("array made in " + made.group().trim(), initialiser ? 1 : 0, 1);
        }
        // A call that begins inside the arguments of another one.
        Matcher call = Pattern.compile("(?<!if |for |while |switch )\\b(?!if\\b|for\\b|while\\b|switch\\b)\\w+"
                + "\\([^()]*\\b(?!if\\b|for\\b)\\w+\\(").matcher(code);
        while (call.find()) {
            Check.due("call inside " + call.group().trim(), 1, 0);
        }
    }

    /** No recursion, calls at most six deep, and no method longer than some sixty lines. */
    private static void calls() throws IOException {
        Map<String, String> bodies = new LinkedHashMap<>();
        Matcher method = Pattern.compile("(?ms)^    (?:public|private) [^;={]*?(\\w+)\\([^)]*\\) \\{$(.*?)^    \\}$")
                .matcher(code());
        while (method.find()) {
            bodies.put(method.group(1), method.group(2));
            Check.due("length of " + method.group(1), method.group(2).lines().count() <= 60 ? 1 : 0, 1);
        }
        int declared = CrawlFrontier.class.getDeclaredMethods().length + 1;
        Check.due("methods and constructor found in the source", bodies.size(), declared);
        for (String name : bodies.keySet()) {
            Check.due("calls of " + name + " at most six deep", depth(bodies, name, 7) <= 6 ? 1 : 0, 1);
        }
    }

    /** A recursion has no depth of its own; it is seen as a depth above the limit. */
    private static int depth(Map<String, String> bodies, String name, int limit) {
        int deepest = 0;
        Matcher called = Pattern.compile("\\b(\\w+)\\(").matcher(bodies.get(name));
        while (limit > 1 && called.find()) {
            if (bodies.containsKey(called.group(1))) {
                deepest = Math.max(deepest, depth(bodies, called.group(1), limit - 1));
            }
        }
        return deepest + 1;
    }

    /** The class file names no class but its own and the one above it, and starts no static field by code. */
    private static void classFile() throws IOException {
        Map<Integer, String> texts = new LinkedHashMap<>();
        Set<Integer> classes = new TreeSet<>();
        try (DataInputStream in = new DataInputStream(CrawlFrontier.class.getResourceAsStream("CrawlFrontier.class"))) {
            in.skipNBytes(8);
            int size = in.readUnsignedShort();
            for (int i = 1; i < size; i++) {
                int tag = in.readUnsignedByte();
                if (tag == 1) {
                    texts.put(i, in.readUTF());
                } else if (tag == 7) {
                    classes.add(in.readUnsignedShort());
                } else {
                    // Method handles have 3 bytes; strings, types, modules 2; longs and doubles 8 and two places.
                    in.skipNBytes(tag == 15 ? 3 : tag == 8 || tag == 16 || tag > 18 ? 2 : tag == 5 || tag == 6 ? 8 : 4);
                    i += tag == 5 || tag == 6 ? 1 : 0;
                }
            }
        }
        Set<String> named = new TreeSet<>();
        for (int i : classes) {
            named.add(texts.get(i));
        }
        Check.due("classes named", named.toString(), "[CrawlFrontier, java/lang/Object]");
        Check.due("static initialiser", texts.containsValue("<clinit>") ? 1 : 0, 0);
    }
}
