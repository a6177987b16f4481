import java.io.IOException;
import java.lang.reflect.Method;
import java.lang.reflect.Modifier;
import java.nio.file.DirectoryStream;
import java.nio.file.Files;
import java.nio.file.Path;
import java.util.Set;
import java.util.TreeSet;
import java.util.regex.Matcher;
import java.util.regex.Pattern;

/** What README.md says is so: its example is run call by call, and it leaves out no call and no test. */
public final class ReadmeTest {
    private static final Pattern CALL = Pattern.compile("reader\\.(\\w+)\\((.*?)\\);\\s*// (\\S+): .*");
    private static final Due DUE = new Due();

    private ReadmeTest() { }

    public static void main(String[] args) throws IOException, ReflectiveOperationException {
        String readme = Files.readString(Path.of("README.md"));
        Set<String> face = new TreeSet<>();
        for (Method m : BuoyReader.class.getDeclaredMethods()) {
            if (Modifier.isPublic(m.getModifiers())) {
                face.add(m.getName());
            }
        }
        DUE.is("the example has all calls of the face", example(readme).equals(face), true);
        for (String call : face) {
            DUE.is("a row for " + call, readme.contains("\n| `" + call + "("), true);
        }
        tests(readme);
        DUE.end();
    }

    /** Runs the example; answers the names of the calls in it. */
    private static Set<String> example(String readme) throws ReflectiveOperationException {
        int from = readme.indexOf("```java\n");
        int end = readme.indexOf("\n```", from + 1);
        DUE.is("there is an example", from >= 0 && end > from, true);
        Set<String> called = new TreeSet<>();
        BuoyReader reader = new BuoyReader();
        for (String line : readme.substring(from + "```java\n".length(), end).split("\n")) {
            if (line.isBlank() || line.equals("BuoyReader reader = new BuoyReader();")) {
                continue;
            }
            Matcher call = CALL.matcher(line);
            boolean reads = call.matches();
            DUE.is("a call with its answer: " + line, reads, true);
            if (reads) {
                called.add(call.group(1));
                DUE.is("README: " + line, answer(reader, call.group(1), call.group(2)), number(call.group(3)));
            }
        }
        return called;
    }

    private static long answer(BuoyReader reader, String name, String arguments) throws ReflectiveOperationException {
        String[] told = arguments.isEmpty() ? new String[0] : arguments.split(", ");
        for (Method m : BuoyReader.class.getDeclaredMethods()) {
            if (m.getName().equals(name) && m.getParameterCount() == told.length) {
                Object[] given = new Object[told.length];
                for (int i = 0; i < told.length; i++) {
                    long v = number(told[i]);
                    // An if, for ?: would make a long of either.
                    if (m.getParameterTypes()[i] == long.class) {
                        given[i] = v;
                    } else {
                        given[i] = Math.toIntExact(v);
                    }
                }
                Object got = m.invoke(reader, given);
                return got instanceof Boolean is ? (is ? 1 : 0) : ((Number) got).longValue();
            }
        }
        throw new NoSuchMethodException(name);
    }

    private static long number(String text) {
        switch (text.replace("BuoyReader.", "")) {
            case "NONE": return BuoyReader.NONE;
            case "GAP": return BuoyReader.GAP;
            case "true": return 1;
            case "false": return 0;
            default: break;
        }
        String digits = text.replace("_", "").replaceAll("L$", "");
        return digits.startsWith("0x") ? Long.parseUnsignedLong(digits.substring(2), 16) : Long.parseLong(digits);
    }

    private static void tests(String readme) throws IOException {
        Set<String> here = new TreeSet<>();
        try (DirectoryStream<Path> files = Files.newDirectoryStream(Path.of("src/test/java"), "*Test.java")) {
            for (Path file : files) {
                here.add(file.getFileName().toString().replace(".java", ""));
            }
        }
        Set<String> told = new TreeSet<>();
        Matcher m = Pattern.compile("`(\\w+Test)`").matcher(readme);
        while (m.find()) {
            told.add(m.group(1));
        }
        DUE.is("the tests here, " + here + ", are those that are told, " + told, here.equals(told), true);
        DUE.is("how to run them", readme.contains("\n    .ci/run\n") && Files.isExecutable(Path.of(".ci/run")), true);
    }
}
