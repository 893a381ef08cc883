import java.lang.reflect.Constructor;
import java.lang.reflect.Field;
import java.lang.reflect.Method;
import java.lang.reflect.Modifier;
import java.nio.file.Files;
import java.nio.file.Path;
import java.util.Map;
import java.util.Set;
import java.util.TreeMap;
import java.util.TreeSet;
import java.util.regex.Matcher;
import java.util.regex.Pattern;

/** The class has the document's public face and no other, and keeps to the rules of LANGUAGE.md that can be read off. */
public final class FaceTest {
    private static final Set<String> FACE = Set.of(
        "BAD_ARG = -1", "FULL = -2", "NONE = -4", "BlockKdTrees()",
        "int add(int, int, int)", "int remove(int)", "int move(int, int, int)", "int size()", "int where(int)",
        "int count(int, int)", "int weight(int, int)", "int heaviest(int, int)", "int next(int, int, int)",
        "int nearest(int, int)", "int near(int, int, int)", "int within(int, int, int)", "int front()",
        "int closest()", "void merge()");
    private static final Set<Class<?>> TYPES = Set.of(
        int.class, long.class, short.class, byte.class, char.class, boolean.class,
        int[].class, long[].class, short[].class, byte[].class, char[].class, boolean[].class);
    private static final Pattern RULED_OUT = Pattern.compile(
        "\\b(package|import|float|double|String|Object|Math|Integer|Long|System|Arrays|null|throw|throws|try|catch"
            + "|synchronized|assert|instanceof|protected|enum|record|interface|extends|implements)\\b|->|::|\"");

    private static int wrong = 0;

    public static void main(String[] args) throws Exception {
        Class<?> made = BlockKdTrees.class;
        check(Modifier.isPublic(made.getModifiers()) && Modifier.isFinal(made.getModifiers()), "public and final");
        check(made.getDeclaredClasses().length == 0, "no nested class");
        checkFace(made);
        checkFields(made);
        checkMethods(made);
        checkSource();
        System.out.println(wrong == 0 ? "the face is as due" : wrong + " things are not as due");
        if (wrong != 0) {
            System.exit(1);
        }
    }

    private static void check(boolean holds, String what) {
        if (!holds) {
            wrong++;
            System.out.println("not so: " + what);
        }
    }

    private static void checkFace(Class<?> made) throws Exception {
        Set<String> seen = new TreeSet<>();
        for (Field f : made.getDeclaredFields()) {
            if (!Modifier.isPrivate(f.getModifiers())) {
                check(f.getModifiers() == (Modifier.PUBLIC | Modifier.STATIC | Modifier.FINAL), f.getName() + " public");
                check(f.getType() == int.class, f.getName() + " is an int");
                seen.add(f.getName() + " = " + f.getInt(null));
            }
        }
        for (Constructor<?> c : made.getDeclaredConstructors()) {
            check(Modifier.isPublic(c.getModifiers()), "the constructor is public");
            seen.add(made.getSimpleName() + parameters(c.getParameterTypes()));
        }
        for (Method m : made.getDeclaredMethods()) {
            if (!Modifier.isPrivate(m.getModifiers())) {
                check(m.getModifiers() == Modifier.PUBLIC, m.getName() + " is public and of the object");
                seen.add(m.getReturnType() + " " + m.getName() + parameters(m.getParameterTypes()));
            }
        }
        check(seen.equals(new TreeSet<>(FACE)), "the face is " + new TreeSet<>(FACE) + " but seen is " + seen);
    }

    private static String parameters(Class<?>[] types) {
        StringBuilder text = new StringBuilder("(");
        for (int i = 0; i < types.length; i++) {
            text.append(i == 0 ? "" : ", ").append(types[i]);
        }
        return text.append(")").toString();
    }

    private static void checkFields(Class<?> made) {
        int ofObject = 0;
        for (Field f : made.getDeclaredFields()) {
            check(TYPES.contains(f.getType()), "rule 2: the type of " + f.getName());
            if (Modifier.isStatic(f.getModifiers())) {
                check(Modifier.isFinal(f.getModifiers()), "rule 5: " + f.getName() + " is a constant");
                check(f.getType() == int.class || f.getType() == long.class, "rule 5: the type of " + f.getName());
            } else {
                ofObject++;
            }
        }
        check(ofObject <= 40, "rule 10: at most some forty fields");
    }

    private static void checkMethods(Class<?> made) {
        Set<String> names = new TreeSet<>();
        for (Method m : made.getDeclaredMethods()) {
            check(names.add(m.getName()), "rule 1: no second method with the name " + m.getName());
            check(m.getParameterCount() <= 7, "rule 10: at most seven parameters for " + m.getName());
            check(!m.getReturnType().isArray(), "rule 4: no array is answered by " + m.getName());
        }
    }

    private static void checkSource() throws Exception {
        String source = Files.readString(Path.of("src/main/java/BlockKdTrees.java"));
        String code = source.replaceAll("(?s)/\\*.*?\\*/", " ").replaceAll("//[^\n]*", " ");
        Matcher found = RULED_OUT.matcher(code);
        while (found.find()) {
            check(false, "rules 2, 3 and 6: the program does without " + found.group());
        }
        Matcher arrays = Pattern.compile("(.*)\\bnew\\b(.*)").matcher(code);
        while (arrays.find()) {
            check(arrays.group().matches("    private final \\w+\\[\\] \\w+ = new \\w+\\[\\w+\\];"),
                "rule 4: an array is made in its field's initialiser:" + arrays.group());
        }
        checkCalls(bodies(code));
    }

    private static Map<String, String> bodies(String code) {
        Map<String, String> bodies = new TreeMap<>();
        Pattern form = Pattern.compile("(?m)^    (?:public|private)[\\w ]* (\\w+)\\(.*\\) \\{\\n((?s:.*?))^    \\}$");
        Matcher methods = form.matcher(code);
        while (methods.find()) {
            bodies.put(methods.group(1), methods.group(2));
        }
        return bodies;
    }

    private static void checkCalls(Map<String, String> bodies) {
        check(bodies.keySet().containsAll(Set.of("BlockKdTrees", "add", "merge")), "the methods can be read off");
        String call = "\\b(" + String.join("|", bodies.keySet()) + ")\\(";
        for (String name : bodies.keySet()) {
            String body = bodies.get(name);
            check(body.lines().count() <= 60, "rule 10: " + name + " is short");
            check(!Pattern.compile(call + "[^()]*" + call).matcher(body).find(), "rule 10: a call in a call's arguments");
            check(!Pattern.compile("\\b(while|do)\\b").matcher(body).find(), "rule 8: " + name + " loops by a counter");
            check(depth(name, bodies, Pattern.compile(call), 1) <= 6, "rules 8 and 10: at most six deep from " + name);
        }
    }

    /** Stops past six, so that a recursion is told as too deep. */
    private static int depth(String name, Map<String, String> bodies, Pattern call, int above) {
        int most = 1;
        Matcher calls = call.matcher(bodies.get(name));
        while (above <= 6 && calls.find()) {
            most = Math.max(most, 1 + depth(calls.group(1), bodies, call, above + 1));
        }
        return most;
    }
}
