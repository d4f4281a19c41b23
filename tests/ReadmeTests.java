import java.io.IOException;
import java.lang.reflect.InvocationTargetException;
import java.lang.reflect.Method;
import java.nio.file.DirectoryStream;
import java.nio.file.Files;
import java.nio.file.Path;
import java.util.regex.Matcher;
import java.util.regex.Pattern;

/** What README.md says of using the class and of its tests is so. */
public final class ReadmeTests {
    private static final Pattern CALL = Pattern.compile("register\\.(\\w+)\\((.*)\\); *// ([-\\w]+)(:.*)?");
    private static final Path README = Path.of("README.md");
    private static final Path TESTS = Path.of("tests");

    public static void main(String[] args) throws IOException {
        String readme = Files.readString(README);
        callsAnswerAsTold(readme);
        everyTestIsTold(readme);
        Check.finish("ReadmeTests");
    }

    private static void callsAnswerAsTold(String readme) {
        int start = readme.indexOf("```java\n");
        int end = readme.indexOf("```\n", start + 8);
        Check.due("an example stands there", start >= 0 && end > start, true);
        MaypoleRegister register = new MaypoleRegister();
        int calls = 0;
        for (String line : readme.substring(start + 8, end).split("\n")) {
            Matcher call = CALL.matcher(line);
            if (call.matches()) {
                calls++;
                String got = answer(register, call.group(1), call.group(2));
                Check.due(line + " is told, " + got, got.equals(call.group(3)), true);
            } else {
                Check.due(line + " is no call", line.startsWith("register."), false);
            }
        }
        Check.due("calls told, " + calls, calls >= 15, true);
    }

    private static String answer(MaypoleRegister register, String name, String told) {
        String[] values = told.isEmpty() ? new String[0] : told.split(", ");
        for (Method method : MaypoleRegister.class.getMethods()) {
            if (!method.getName().equals(name) || method.getParameterCount() != values.length) {
                continue;
            }
            Object[] arguments = new Object[values.length];
            for (int i = 0; i < values.length; i++) {
                boolean isTruth = method.getParameterTypes()[i] == boolean.class;
                arguments[i] = isTruth ? (Object) values[i].equals("true") : (Object) Integer.decode(values[i]);
            }
            try {
                return String.valueOf(method.invoke(register, arguments));
            } catch (InvocationTargetException e) {
                return "thrown";
            } catch (IllegalAccessException e) {
                return "hidden";
            }
        }
        return "no such call";
    }

    private static void everyTestIsTold(String readme) throws IOException {
        try (DirectoryStream<Path> tests = Files.newDirectoryStream(TESTS, "*.java")) {
            for (Path test : tests) {
                String name = test.getFileName().toString();
                String told = name.startsWith("EdgesOf") ? "EdgesOf..Tests.java" : name;
                Check.due(name + " is told", readme.contains(told), true);
            }
        }
        Check.due(".ci/run is there", Files.isExecutable(Path.of(".ci", "run")), true);
        Check.due(".ci/run is told", readme.contains("\n.ci/run\n"), true);
    }
}
