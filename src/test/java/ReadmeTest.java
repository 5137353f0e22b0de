import java.io.File;
import java.io.IOException;
import java.lang.reflect.Method;
import java.nio.file.Files;
import java.util.regex.Matcher;
import java.util.regex.Pattern;

/** README.md tells what is so: its example answers as it says, every call of the face and every test is named in it. */
public final class ReadmeTest {
    private static final Pattern CALL = Pattern.compile("^x\\.(\\w+)\\(([^)]*)\\);\\s*(?://\\s*(-?\\d+)?.*)?$");
    private static final Checks C = new Checks();

    private ReadmeTest() {
    }

    public static void main(String[] args) throws IOException, ReflectiveOperationException {
        File root = args.length > 0 ? new File(args[0]).getAbsoluteFile().getParentFile().getParentFile().getParentFile().getParentFile()
            : new File(".");
        String readme = Files.readString(new File(root, "README.md").toPath());
        example(readme);
        for (Method m : BitBranches.class.getDeclaredMethods()) {
            if (java.lang.reflect.Modifier.isPublic(m.getModifiers())) {
                C.holds("README.md tells of " + m.getName() + "()", readme.contains("| `" + m.getName() + "("));
            }
        }
        File[] tests = new File(root, "src/test/java").listFiles((dir, name) -> name.endsWith("Test.java"));
        C.holds("there are tests", tests != null && tests.length > 0);
        for (File test : tests == null ? new File[0] : tests) {
            C.holds("README.md tells of " + test.getName(), readme.contains("`" + test.getName().replace(".java", "") + "`"));
        }
        C.holds("README.md tells how to run the tests", readme.contains(".ci/run"));
        C.end();
    }

    private static void example(String readme) throws ReflectiveOperationException {
        BitBranches x = new BitBranches();
        int calls = 0, told = 0;
        int from = readme.indexOf("```java");
        int to = readme.indexOf("```", from + 3);
        C.holds("README.md has an example", from >= 0 && to > from);
        for (String line : readme.substring(Math.max(0, from), Math.max(0, to)).split("\n")) {
            Matcher call = CALL.matcher(line.trim());
            if (call.matches()) {
                int answer = answer(x, call.group(1), call.group(2));
                calls++;
                if (call.group(3) != null) {
                    told++;
                    C.due("README.md: " + line, answer, Integer.parseInt(call.group(3)));
                }
            }
        }
        C.holds("the example calls and tells answers", calls > told && told > 5);
    }

    private static int answer(BitBranches x, String name, String numbers) throws ReflectiveOperationException {
        String[] parts = numbers.isBlank() ? new String[0] : numbers.split(",");
        Class<?>[] types = new Class<?>[parts.length];
        Object[] values = new Object[parts.length];
        for (int i = 0; i < parts.length; i++) {
            String part = parts[i].trim();
            types[i] = int.class;
            values[i] = part.startsWith("'") ? (int) part.charAt(1) : Integer.parseInt(part);
        }
        return (int) BitBranches.class.getMethod(name, types).invoke(x, values);
    }
}
