import java.io.IOException;
import java.lang.reflect.Method;
import java.lang.reflect.Modifier;
import java.nio.file.Files;
import java.nio.file.Path;
import java.util.Arrays;
import java.util.Set;
import java.util.TreeSet;
import java.util.regex.Matcher;
import java.util.regex.Pattern;

/** The public face, and those rules of LANGUAGE.md that can be told from the text or the class. */
public final class LanguageTest {
    private static final Due DUE = new Due();
    private static final String[] FACE = {
        "int heave(int)", "int four(long)", "int forget(int)", "boolean set(int,int)", "boolean level(int,int)",
        "boolean mark(int,int)", "int lens(int,int)", "int off()", "int count(int)", "int sample(int,int)",
        "int through(int,int)", "int stretch(int,int)", "int wave(int,int)", "int ranked(int)",
        "int highest(int,int)", "int freak(int)", "int group(int,int)", "long energy(int)",
        "boolean name(int,int)", "int unname(int)", "int named(int)", "int would(int)", "int quiet(int)",
        "int gone(int)",
    };
    private static final String[] NEVER = {"throw", "throws", "try", "catch", "finally", "synchronized", "assert",
        "import", "package", "native", "volatile", "transient", "double", "float", "var"};

    private LanguageTest() { }

    public static void main(String[] args) throws IOException {
        face();
        String text = Files.readString(Path.of("src/main/java/BuoyReader.java"));
        words(text.replaceAll("(?s)/\\*.*?\\*/", " ").replaceAll("//[^\n]*", " "));
        DUE.end();
    }

    private static void face() {
        Set<String> found = new TreeSet<>();
        Set<String> names = new TreeSet<>();
        for (Method m : BuoyReader.class.getDeclaredMethods()) {
            if (Modifier.isPrivate(m.getModifiers())) {
                continue;
            }
            StringBuilder head = new StringBuilder(m.getReturnType() + " " + m.getName() + "(");
            for (int i = 0; i < m.getParameterCount(); i++) {
                head.append(i == 0 ? "" : ",").append(m.getParameterTypes()[i]);
            }
            found.add(head.append(")").toString());
            names.add(m.getName());
        }
        DUE.is("the face " + found, found.equals(new TreeSet<>(Arrays.asList(FACE))), true);
        long visible = Arrays.stream(BuoyReader.class.getDeclaredFields())
            .filter(f -> !Modifier.isPrivate(f.getModifiers())).count();
        DUE.is("two visible fields", visible, 2);
        DUE.is("one constructor", BuoyReader.class.getDeclaredConstructors().length, 1);
        Class<?>[] inside = BuoyReader.class.getDeclaredClasses();
        DUE.is("twelve classes at most", inside.length + 1 <= 12, true);
        privateOnes(BuoyReader.class, names);
        for (Class<?> c : inside) {
            DUE.is(c + " is static", Modifier.isStatic(c.getModifiers()), true);
            DUE.is(c + " has at most twenty fields", c.getDeclaredFields().length <= 20, true);
            privateOnes(c, names);
        }
    }

    /** Outside the face no method bears the name of one of the face, in any class. */
    private static void privateOnes(Class<?> c, Set<String> names) {
        for (Method m : c.getDeclaredMethods()) {
            boolean ofFace = c == BuoyReader.class && Modifier.isPublic(m.getModifiers());
            DUE.is(c + " " + m.getName(), !ofFace && names.contains(m.getName()), false);
            DUE.is(c + " " + m.getName() + " takes seven at most", m.getParameterCount() <= 7, true);
        }
    }

    private static void words(String code) {
        for (String word : NEVER) {
            Matcher m = Pattern.compile("\\b" + word + "\\b").matcher(code);
            DUE.is("the word " + word, m.find(), false);
        }
        DUE.is("no lambda", code.contains("->"), false);
        DUE.is("no method reference", code.contains("::"), false);
        DUE.is("nothing Exact", code.contains("Exact"), false);
        DUE.is("no while without a counter", Pattern.compile("\\bwhile\\b").matcher(code).find(), false);
    }
}
