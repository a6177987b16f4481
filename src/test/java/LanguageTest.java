import java.io.IOException;
import java.lang.reflect.Field;
import java.lang.reflect.Method;
import java.lang.reflect.Modifier;
import java.nio.file.Files;
import java.nio.file.Path;
import java.util.ArrayList;
import java.util.Arrays;
import java.util.List;
import java.util.Map;
import java.util.Set;
import java.util.TreeMap;
import java.util.TreeSet;
import java.util.regex.Matcher;
import java.util.regex.Pattern;

/** The public face, and those rules of LANGUAGE.md that can be told from the text or the class. */
public final class LanguageTest {
    private static final Due DUE = new Due();
    private static final String[] FACE = {
        "int heave(int)", "int four(long)", "int forget(int)", "boolean set(int,int)", "boolean level(int,int)",
        "boolean mark(int,int)", "int lens(int,int)", "int off()", "int count(int)", "int sample(int,int)",
        "int through(int,int)", "int stretch(int,int)", "int wave(int,int)", "int ranked(int)",
        "int highest(int,int)", "int freak(int)", "int group(int,int)", "long energy(int)",
        "boolean name(int,int)", "int unname(int)", "int named(int)", "int would(int)", "int quiet(int)",
        "int gone(int)",
    };
    private static final String[] NEVER = {"throw", "throws", "try", "catch", "finally", "synchronized", "assert",
        "import", "package", "native", "volatile", "transient", "double", "float", "var", "protected", "yield",
        "equals", "hashCode", "toString", "instanceof"};
    /** Of the library the class uses these alone. */
    private static final Set<String> MATH = Set.of("max", "min", "floorDiv", "floorMod");
    private static final Set<String> STATIC_TYPES = Set.of("int", "long", "boolean", "char", "String", "int[]",
        "long[]", "char[]", "byte[]");
    private static final int LONGEST_METHOD = 60;
    private static final int DEEPEST_CALL = 8;
    private static final Pattern METHOD = Pattern.compile("(    |        )(?:[a-z]+ )*[\\w\\[\\]]+ (\\w+)\\([^;]*\\) \\{");

    private LanguageTest() { }

    public static void main(String[] args) throws IOException {
        face();
        String text = Files.readString(Path.of("src/main/java/BuoyReader.java"));
        String code = text.replaceAll("(?s)/\\*.*?\\*/", " ").replaceAll("//[^\n]*", " ");
        words(code);
        library(text, code);
        Map<String, String> methods = methods(code);
        for (String method : methods.keySet()) {
            DUE.is(method + " has at most eight calls open", depth(method, methods, 1) <= DEEPEST_CALL, true);
        }
        DUE.end();
    }

    private static void face() {
        Set<String> found = new TreeSet<>();
        Set<String> names = new TreeSet<>();
        for (Method m : BuoyReader.class.getDeclaredMethods()) {
            if (Modifier.isPrivate(m.getModifiers())) {
                continue;
            }
            StringBuilder head = new StringBuilder(m.getReturnType() + " " + m.getName() + "(");
            for (int i = 0; i < m.getParameterCount(); i++) {
                head.append(i == 0 ? "" : ",").append(m.getParameterTypes()[i]);
            }
            found.add(head.append(")").toString());
            names.add(m.getName());
        }
        DUE.is("the face " + found, found.equals(new TreeSet<>(Arrays.asList(FACE))), true);
        long visible = Arrays.stream(BuoyReader.class.getDeclaredFields())
            .filter(f -> !Modifier.isPrivate(f.getModifiers())).count();
        DUE.is("two visible fields", visible, 2);
        DUE.is("one constructor", BuoyReader.class.getDeclaredConstructors().length, 1);
        Class<?>[] inside = BuoyReader.class.getDeclaredClasses();
        DUE.is("twelve classes at most", inside.length + 1 <= 12, true);
        privateOnes(BuoyReader.class, names);
        fields(BuoyReader.class);
        for (Class<?> c : inside) {
            DUE.is(c + " is static", Modifier.isStatic(c.getModifiers()), true);
            DUE.is(c + " is not public", Modifier.isPublic(c.getModifiers()) || Modifier.isProtected(c.getModifiers()), false);
            DUE.is(c + " has no class inside", c.getDeclaredClasses().length, 0);
            fields(c);
            privateOnes(c, names);
        }
    }

    private static void fields(Class<?> c) {
        int own = 0;
        for (Field f : c.getDeclaredFields()) {
            if (Modifier.isStatic(f.getModifiers())) {
                DUE.is(f + " is final", Modifier.isFinal(f.getModifiers()), true);
                DUE.is(f + " is a constant", STATIC_TYPES.contains(f.getType().getSimpleName()), true);
            } else {
                own++;
            }
        }
        DUE.is(c + " has at most twenty fields", own <= 20, true);
    }

    /** Outside the face no method bears the name of one of the face, in any class. */
    private static void privateOnes(Class<?> c, Set<String> names) {
        for (Method m : c.getDeclaredMethods()) {
            boolean ofFace = c == BuoyReader.class && Modifier.isPublic(m.getModifiers());
            DUE.is(c + " " + m.getName(), !ofFace && names.contains(m.getName()), false);
            DUE.is(c + " " + m.getName() + " takes seven at most", m.getParameterCount() <= 7, true);
        }
    }

    private static void words(String code) {
        for (String word : NEVER) {
            Matcher m = Pattern.compile("\\b" + word + "\\b").matcher(code);
            DUE.is("the word " + word, m.find(), false);
        }
        DUE.is("no lambda", code.contains("->"), false);
        DUE.is("no method reference", code.contains("::"), false);
        DUE.is("nothing Exact", code.contains("Exact"), false);
        DUE.is("no while without a counter", Pattern.compile("\\bwhile\\b").matcher(code).find(), false);
    }

    /** Names that begin as a class's does are own classes or Math, and of Math only what is listed. */
    private static void library(String text, String code) {
        Set<String> own = new TreeSet<>(Set.of("BuoyReader", "Math"));
        for (Class<?> c : BuoyReader.class.getDeclaredClasses()) {
            own.add(c.getSimpleName());
        }
        Matcher named = Pattern.compile("\\b[A-Z]\\w*[a-z]\\w*").matcher(code);
        while (named.find()) {
            DUE.is("the class " + named.group(), own.contains(named.group()), true);
        }
        Matcher called = Pattern.compile("\\bMath\\.(\\w+)").matcher(code);
        while (called.find()) {
            DUE.is(called.group(), MATH.contains(called.group(1)), true);
        }
        DUE.is("no texts", code.contains("\""), false);
        DUE.is("no static block", Pattern.compile("\\bstatic\\s*\\{").matcher(code).find(), false);
        DUE.is("plain signs alone", text.chars().allMatch(c -> c > 0 && c < 128), true);
    }

    /** The text of each method by its name; those of one name are taken together. */
    private static Map<String, String> methods(String code) {
        Map<String, String> found = new TreeMap<>();
        String[] lines = code.split("\n");
        for (int i = 0; i < lines.length; i++) {
            Matcher head = METHOD.matcher(lines[i]);
            if (!head.matches()) {
                continue;
            }
            List<String> body = new ArrayList<>();
            int at = i + 1;
            for (; at < lines.length && !lines[at].equals(head.group(1) + "}"); at++) {
                body.add(lines[at]);
            }
            DUE.is(head.group(2) + " is short", at + 1 - i <= LONGEST_METHOD, true);
            found.merge(head.group(2), String.join("\n", body), (a, b) -> a + "\n" + b);
        }
        DUE.is("methods found: " + found.keySet(), found.size() > FACE.length + 30, true);
        return found;
    }

    /** How many calls stand open at most, this one with them; without an end if methods call in a ring. */
    private static int depth(String method, Map<String, String> methods, int ahead) {
        int deepest = ahead;
        if (ahead > DEEPEST_CALL) {
            return ahead;
        }
        Matcher called = Pattern.compile("\\b(\\w+)\\(").matcher(methods.get(method));
        while (called.find()) {
            boolean ofLibrary = called.start() >= 5 && methods.get(method).startsWith("Math.", called.start() - 5);
            if (!ofLibrary && methods.containsKey(called.group(1))) {
                deepest = Math.max(deepest, depth(called.group(1), methods, ahead + 1));
            }
        }
        return deepest;
    }
}
