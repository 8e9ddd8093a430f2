import java.io.IOException;
import java.lang.reflect.Constructor;
import java.lang.reflect.Field;
import java.lang.reflect.Method;
import java.lang.reflect.Modifier;
import java.nio.file.Files;
import java.nio.file.Path;
import java.util.ArrayDeque;
import java.util.ArrayList;
import java.util.Arrays;
import java.util.Deque;
import java.util.HashMap;
import java.util.HashSet;
import java.util.LinkedHashMap;
import java.util.List;
import java.util.Map;
import java.util.Set;
import java.util.TreeSet;
import java.util.regex.Matcher;
import java.util.regex.Pattern;

/** The document's public face, and those rules of LANGUAGE.md that a program can look at. */
public final class LanguageTest {
    private static final Check CHECK = new Check("LanguageTest");
    private static final Path SOURCE = Path.of("src/main/java/SimilarityDesk.java");
    private static final Pattern HEAD =
            Pattern.compile("^    (?:public|private) (?:static )?(?:\\w+ )?(\\w+)\\((.*)\\) \\{$");
    private static final Pattern CALL = Pattern.compile("(?:\\bnew )?\\b(\\w+)\\(|[()]");
    private static final Set<String> BEFORE_PARENTHESES =
            Set.of("if", "for", "while", "switch", "return");

    private static final String[] FACE = {
        "boolean apply(int, int, int, int)", "boolean diagonal(int)", "boolean invert(int, int)",
        "boolean normal(int, int)", "boolean power(int, int, int)", "boolean set(int, int, int)",
        "boolean similar(int, int)", "boolean valueAt(int, int, int)",
        "int ADD", "int BAD", "int MUL", "int NONE", "int SUB",
        "int characteristic(int)", "int commutant(int)", "int determinant(int)",
        "int eigen(int, int)", "int get(int, int)", "int invariant(int, int)",
        "int minimal(int)", "int order(int)", "new(int)",
    };

    private static final String[] NO_WORDS = {
        "float", "double", "String", "Math", "Integer", "System", "Arrays", "Object", "import",
        "package", "null", "throw", "throws", "try", "catch", "synchronized", "assert",
        "instanceof", "interface", "enum", "record", "->", "::", "protected", "\"",
    };

    private LanguageTest() {
    }

    public static void main(String[] args) throws IOException {
        lookAtFace();
        String text = Files.readString(SOURCE);
        String code = text.replaceAll("(?s)/\\*.*?\\*/", "").replaceAll("//.*", "");
        lookAtWords(code);
        Map<String, List<String>> bodies = methods(code);
        lookAtMethods(bodies);
        lookAtCalls(bodies);
        CHECK.end();
    }

    private static void lookAtFace() {
        Class<?> desk = SimilarityDesk.class;
        Set<String> face = new TreeSet<>();
        for (Constructor<?> maker : desk.getDeclaredConstructors()) {
            note(face, maker.getModifiers(), "new" + types(maker.getParameterTypes()));
        }
        for (Method method : desk.getDeclaredMethods()) {
            String name = method.getReturnType() + " " + method.getName();
            note(face, method.getModifiers(), name + types(method.getParameterTypes()));
        }
        for (Field field : desk.getDeclaredFields()) {
            note(face, field.getModifiers(), field.getType() + " " + field.getName());
            if (Modifier.isStatic(field.getModifiers())) {
                CHECK.due("a constant: " + field, true, Modifier.isFinal(field.getModifiers())
                        && !field.getType().isArray());
            }
        }
        Set<String> due = new TreeSet<>(Arrays.asList(FACE));
        CHECK.due("the public face is " + face + ", due is " + due, true, face.equals(due));
        CHECK.due("a public, final class", Modifier.PUBLIC | Modifier.FINAL, desk.getModifiers());
        CHECK.due("classes inside", 0, desk.getDeclaredClasses().length);
    }

    private static void note(Set<String> face, int modifiers, String member) {
        if (Modifier.isPublic(modifiers)) {
            face.add(member);
        } else {
            CHECK.due("private: " + member, true, Modifier.isPrivate(modifiers));
        }
    }

    private static String types(Class<?>[] types) {
        return Arrays.toString(types).replace('[', '(').replace(']', ')');
    }

    private static void lookAtWords(String code) {
        for (String word : NO_WORDS) {
            boolean plain = word.matches("\\w+");
            boolean found = plain ? Pattern.compile("\\b" + word + "\\b").matcher(code).find()
                    : code.contains(word);
            CHECK.due("the word " + word, false, found);
        }
        // A field's line has four blanks before it, a method's eight or more.
        for (String line : code.split("\n")) {
            if (line.contains("new ")) {
                CHECK.due("an array field: " + line, true, line.matches(
                        "    private final int\\[\\] \\w+ = new int\\[(\\d+|[A-Z_]+)\\];"));
            }
        }
    }

    /** The lines of each method; a private one with a public one's name shows as a second one. */
    private static Map<String, List<String>> methods(String code) {
        Map<String, List<String>> bodies = new LinkedHashMap<>();
        List<String> body = null;
        for (String line : code.split("\n")) {
            Matcher head = HEAD.matcher(line);
            if (head.matches()) {
                body = new ArrayList<>();
                List<String> before = bodies.put(head.group(1), body);
                CHECK.due("one method of the name " + head.group(1), true, before == null);
                int parameters = head.group(2).split(",").length;
                CHECK.due("parameters of " + head.group(1), true, parameters <= 7);
            } else if (line.equals("    }")) {
                body = null;
            } else if (body != null) {
                body.add(line);
            }
        }
        int found = SimilarityDesk.class.getDeclaredMethods().length + 1;
        CHECK.due("methods and the constructor found", found, bodies.size());
        return bodies;
    }

    private static void lookAtMethods(Map<String, List<String>> bodies) {
        for (Map.Entry<String, List<String>> method : bodies.entrySet()) {
            String name = method.getKey();
            CHECK.due("length of " + name, true, method.getValue().size() <= 60);
            Deque<Boolean> open = new ArrayDeque<>();
            Matcher call = CALL.matcher(String.join("\n", method.getValue()));
            while (call.find()) {
                if (call.group().equals(")")) {
                    open.pop();
                } else {
                    boolean isCall = call.group(1) != null
                            && !BEFORE_PARENTHESES.contains(call.group(1));
                    CHECK.due("a call in a call's arguments in " + name, false,
                            isCall && open.contains(true));
                    open.push(isCall);
                }
            }
        }
    }

    private static void lookAtCalls(Map<String, List<String>> bodies) {
        Map<String, Set<String>> calls = new HashMap<>();
        for (Map.Entry<String, List<String>> method : bodies.entrySet()) {
            Set<String> called = new HashSet<>();
            Matcher call = CALL.matcher(String.join("\n", method.getValue()));
            while (call.find()) {
                if (call.group(1) != null && !BEFORE_PARENTHESES.contains(call.group(1))) {
                    called.add(call.group(1));
                }
            }
            for (String name : called) {
                CHECK.due("a method of the class: " + name, true, bodies.containsKey(name));
            }
            calls.put(method.getKey(), called);
        }
        for (String name : calls.keySet()) {
            CHECK.due("calls from " + name + " go at most six deep", true,
                    depth(name, calls, 1) <= 6);
        }
    }

    /** A recursion shows as a depth above the limit. */
    private static int depth(String name, Map<String, Set<String>> calls, int above) {
        int deepest = above;
        if (above <= 6) {
            for (String called : calls.getOrDefault(name, Set.of())) {
                deepest = Math.max(deepest, depth(called, calls, above + 1));
            }
        }
        return deepest;
    }
}
