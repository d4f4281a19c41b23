import java.io.IOException;
import java.lang.reflect.Constructor;
import java.lang.reflect.Field;
import java.lang.reflect.Method;
import java.lang.reflect.Modifier;
import java.nio.file.Files;
import java.nio.file.Path;
import java.util.Arrays;
import java.util.List;
import java.util.Set;
import java.util.TreeSet;

/** The public face as the document has it, and what of the language's rules can be seen in the source. */
public final class FaceTests {
    private static final String[] FACE = {
        "int feed(int, int, int, int, int)", "int text(int)", "int fault(int)", "int named(int)", "int dancer(int, int)",
        "int crossing(int, int)", "int bond(int, int)", "int at(int, int)", "boolean isHome()", "boolean isLoose()",
        "int alike()", "long law(int, int)", "int cross(int, boolean)", "int letGo(int)", "boolean swap(int)",
        "boolean cancel(int)", "boolean slide(int)", "int feast(int, int)", "int go(int)", "int ahead(int, int)",
        "int lean()", "int danceBack(int)", "int make(int, int)", "int looseRows(int)", "int tied(int, int, int)",
        "int freed(int)", "long holds(int, int)", "int read(int, int, int, boolean)", "int readBond(int, int, int, boolean)",
        "int strike(int)", "boolean known(int)", "int fits(int)", "int chance(int, int)", "int tried(int, int, int)",
        "int undo()", "int keep()", "int back()", "int count(int)"};
    private static final String[] FORBIDDEN = {"->", "::", "synchronized", "assert ", "finally", "catch", "try {",
        "Exact(", "String.format", ".equals(", "hashCode", "toString", "System.out", "Random", "nanoTime", "currentTime",
        "Thread", "\t", "static {", "var ", "Object ", "java.io", "Math.floor(", "Math.pow", "Math.sqrt"};
    private static final Path SOURCE = Path.of("src", "main", "java", "MaypoleRegister.java");

    public static void main(String[] args) throws IOException {
        faceIsWhole();
        restIsHidden();
        sourceKeepsToTheLanguage();
        Check.finish("FaceTests");
    }

    private static String told(Method method) {
        String parameters = Arrays.toString(method.getParameterTypes());
        return method.getReturnType() + " " + method.getName() + "(" + parameters.substring(1, parameters.length() - 1) + ")";
    }

    private static void faceIsWhole() {
        Set<String> due = new TreeSet<>(List.of(FACE));
        Set<String> got = new TreeSet<>();
        for (Method method : MaypoleRegister.class.getDeclaredMethods()) {
            if (!Modifier.isPrivate(method.getModifiers()) && !method.isSynthetic()) {
                got.add(told(method));
                Check.due(method + " is public", Modifier.isPublic(method.getModifiers()), true);
                Check.due(method + " is of an object", Modifier.isStatic(method.getModifiers()), false);
            }
        }
        Check.due("the face is " + got, got.equals(due), true);
        Constructor<?>[] constructors = MaypoleRegister.class.getDeclaredConstructors();
        Check.due("constructors", constructors.length, 1);
        Check.due("constructor is public", Modifier.isPublic(constructors[0].getModifiers()), true);
        Check.due("constructor takes nothing", constructors[0].getParameterCount(), 0);
        Check.due("class is final", Modifier.isFinal(MaypoleRegister.class.getModifiers()), true);
    }

    private static void restIsHidden() {
        Set<String> names = new TreeSet<>();
        for (String method : FACE) {
            names.add(method.substring(method.indexOf(' ') + 1, method.indexOf('(')));
        }
        int fields = 0;
        for (Field field : MaypoleRegister.class.getDeclaredFields()) {
            boolean isNone = field.getName().equals("NONE");
            Check.due(field + " is hidden", Modifier.isPrivate(field.getModifiers()), !isNone);
            Check.due(field + " is final if static", Modifier.isFinal(field.getModifiers()) || !Modifier.isStatic(field.getModifiers()), true);
            fields += Modifier.isStatic(field.getModifiers()) ? 0 : 1;
        }
        Check.due("some twenty fields", fields <= 20, true);
        Class<?>[] inside = MaypoleRegister.class.getDeclaredClasses();
        Check.due("some twelve classes", inside.length <= 11, true);
        for (Class<?> one : inside) {
            Check.due(one + " is static", Modifier.isStatic(one.getModifiers()), true);
            Check.due(one + " is not public", Modifier.isPublic(one.getModifiers()), false);
            for (Method method : one.getDeclaredMethods()) {
                Check.due(method + " bears no name of the face", names.contains(method.getName()), false);
                Check.due(method + " takes seven at most", method.getParameterCount() <= 7, true);
            }
        }
        for (Method method : MaypoleRegister.class.getDeclaredMethods()) {
            if (Modifier.isPrivate(method.getModifiers())) {
                Check.due(method + " bears no name of the face", names.contains(method.getName()), false);
            }
        }
    }

    private static void sourceKeepsToTheLanguage() throws IOException {
        List<String> lines = Files.readAllLines(SOURCE);
        int start = 0;
        for (int i = 0; i < lines.size(); i++) {
            String line = lines.get(i);
            if (line.startsWith("import ")) {
                Check.due(line, line.equals("import java.util.NoSuchElementException;"), true);
            }
            for (String forbidden : FORBIDDEN) {
                Check.due("line " + (i + 1) + " has " + forbidden, line.contains(forbidden), false);
            }
            for (int k = 0; k < line.length(); k++) {
                Check.due("line " + (i + 1) + " has a sign beyond 127", line.charAt(k) > 127, false);
            }
            // a method begins at a line of its own that opens a block, and ends at the '}' below it
            if (line.matches("( {4}| {8})[^ /].*\\) (throws .*)?\\{")) {
                start = i;
            }
            if (line.equals("    }") || line.equals("        }")) {
                Check.due("method at line " + (start + 1) + " is short", i - start <= 60 || line.length() == 5, true);
            }
        }
    }
}
