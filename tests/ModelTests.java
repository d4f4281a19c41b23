import java.lang.reflect.InvocationTargetException;
import java.lang.reflect.Method;
import java.lang.reflect.Modifier;
import java.util.Arrays;
import java.util.List;
import java.util.Map;
import java.util.Random;
import java.util.TreeMap;

/** All promises at once: runs of calls as they come, each with the answer of the plain second register. */
public final class ModelTests {
    private static final String[] DEAR = {"make", "looseRows", "danceBack"};
    private static final String[] NAMES = {"ann", "bo", "cy", "dee", "eve", "fritz", "g", "abcdef", "zzzzzz", "a"};
    private static final String[] SIGNS = {"+", "-", "*", "/", " * ", "\n+"};
    private static final String[] COMPARISONS = {"<", "<=", "=", "<>", ">=", ">"};
    private static final String[] PARTS = {"above", "below", "place", "bond", "many", "left", "year", "0", "1", "2", "3",
        "10", "50", "60", "99", "100", "9999"};
    private static final String[] TAILS = {"dancer x;", "law may 1;", "slip 3;", "seed 3;", "over 0 0;", "over 0 5;",
        "law vow (((((((((1)))))))));", "law loosen 1<2<3;", "dancer many;", "under 100 1", "\u00e9", ";"};

    private final Random random;
    private final MaypoleRegister register = new MaypoleRegister();
    private final Model model = new Model();
    private final Map<String, Method> calls = new TreeMap<>();
    private final StringBuilder run = new StringBuilder();

    private ModelTests(long seed) {
        random = new Random(seed);
        for (Method method : MaypoleRegister.class.getDeclaredMethods()) {
            if (Modifier.isPublic(method.getModifiers())) {
                calls.put(method.getName(), method);
            }
        }
    }

    public static void main(String[] args) {
        for (int seed = 0; seed < 150; seed++) {
            new ModelTests(seed).runCalls(400);
        }
        Check.finish("ModelTests");
    }

    private void runCalls(int many) {
        loadText();
        String[] names = calls.keySet().toArray(new String[0]);
        for (int i = 0; i < many; i++) {
            int what = random.nextInt(100);
            if (what < 25) {
                call("cross", between(0, model.now.left.size() - 2), random.nextInt(2));
            } else if (what < 33) {
                callBehindTheLast();
            } else if (what < 45) {
                callWhereItFits();
            } else if (what < 50) {
                call("undo");
            } else if (what < 57) {
                readWhatIs();
            } else {
                callAny(names[random.nextInt(names.length)]);
            }
        }
    }

    private int between(int least, int most) {
        return least + random.nextInt(Math.max(1, most - least + 1));
    }

    private String any(String[] parts) {
        return parts[random.nextInt(parts.length)];
    }

    private void loadText() {
        String text = makeText();
        for (int start = 0; start < text.length() && start < 700; start += 20) {
            int[] numbers = new int[5];
            for (int i = 0; i < 20; i++) {
                numbers[i / 4] = numbers[i / 4] << 8 | (start + i < text.length() ? text.charAt(start + i) : ' ');
            }
            call("feed", numbers);
        }
        call("text", Math.min(700, text.length()));
        call("fault", 0);
        call("fault", 1);
        call("count", 3);
    }

    private String makeText() {
        StringBuilder text = new StringBuilder();
        int dancers = between(0, 6);
        int first = random.nextInt(NAMES.length);
        for (int i = 0; i < dancers; i++) {
            text.append("dancer ").append(NAMES[(first + i) % NAMES.length]).append(';');
        }
        int tellings = between(0, 24);
        int years = between(0, 12);
        for (int i = 0; i < tellings; i++) {
            text.append(random.nextBoolean() ? "over " : "under ").append(between(0, years)).append(' ')
                    .append(between(0, Math.max(0, Math.min(4, dancers - 1)))).append(';');
        }
        if (random.nextBoolean()) {
            text.append("slip ").append(between(0, 100)).append(";seed ").append(between(0, 99999)).append(';');
        }
        String[] rules = {"may", "vow", "loosen"};
        for (String rule : rules) {
            if (random.nextInt(3) == 0) {
                text.append("law ").append(rule).append(' ').append(makeExpression(0)).append(";\n");
            }
        }
        if (random.nextInt(4) == 0) {
            text.insert(random.nextInt(text.length() + 1), any(TAILS));
        }
        if (random.nextInt(6) == 0) {
            text.setLength(random.nextInt(text.length() + 1));
        }
        return text.toString();
    }

    private String makeExpression(int depth) {
        StringBuilder made = new StringBuilder(random.nextInt(6) == 0 ? "not " : "").append(makeSum(depth));
        if (random.nextInt(3) == 0) {
            made.append(any(COMPARISONS)).append(makeSum(depth));
        }
        if (depth < 3 && random.nextInt(4) == 0) {
            made.append(random.nextBoolean() ? " and " : " or ").append(makeExpression(depth + 1));
        }
        return made.toString();
    }

    private String makeSum(int depth) {
        StringBuilder made = new StringBuilder();
        do {
            made.append(made.length() == 0 ? "" : any(SIGNS));
            made.append(depth < 3 && random.nextInt(6) == 0 ? "(" + makeExpression(depth + 1) + ")" : any(PARTS));
        } while (random.nextInt(3) == 0);
        return made.toString();
    }

    /** A crossing that undoes the last one, or goes on as the last but one: so that plaits grow loose and slide. */
    private void callBehindTheLast() {
        int many = model.now.plait.size();
        if (many > 1) {
            boolean undoes = random.nextBoolean();
            int[] crossing = model.now.plait.get(undoes ? many - 1 : many - 2);
            call("cross", crossing[0], undoes || random.nextInt(3) == 0 ? 1 - crossing[1] : crossing[1]);
        }
    }

    private void callWhereItFits() {
        int many = model.now.plait.size();
        String[] names = {"swap", "cancel", "slide", "slide", "swap", "alike", "isLoose"};
        String name = any(names);
        if (name.equals("alike") || name.equals("isLoose")) {
            call(name);
            return;
        }
        int start = between(0, many - 1);
        for (int i = 0; i < 6; i++) {
            call(name, (start + i) % Math.max(1, many));
        }
    }

    private void readWhatIs() {
        if (!model.now.left.isEmpty()) {
            int dancer = model.now.left.get(random.nextInt(model.now.left.size()));
            int n = between(0, 48);
            call("read", n, dancer, model.now.order(n).indexOf(dancer), 1);
        }
        if (!model.now.plait.isEmpty()) {
            call("fits", between(0, model.now.plait.size() - 1));
        }
    }

    private void callAny(String name) {
        boolean dear = List.of(DEAR).contains(name);
        if (name.equals("text") && random.nextInt(4) != 0 || dear && model.now.left.size() > 3 && random.nextInt(20) != 0
                || name.equals("letGo") && random.nextInt(3) != 0 || name.equals("back") && random.nextBoolean()) {
            return;
        }
        if (name.equals("feed")) {
            loadText();
            return;
        }
        int[] values = new int[calls.get(name).getParameterCount()];
        int[] ends = {-1, 0, 1, 2, 3, 4, 5, 6, 20, 47, 48, 49, 99, 100, Integer.MAX_VALUE, Integer.MIN_VALUE};
        for (int i = 0; i < values.length; i++) {
            int kind = random.nextInt(20);
            values[i] = kind == 0 ? ends[random.nextInt(ends.length)] : kind < 4 ? between(0, 50) : between(0, 5);
        }
        if (name.equals("tried") && values[0] != 2) {
            values[1] = random.nextInt(12) == 0 ? 1 : 0;
        }
        if ((name.equals("feast") || name.equals("chance")) && random.nextBoolean()) {
            values[0] = random.nextInt() >>> 1;
        }
        call(name, values);
    }

    /** Calls both registers: what they answer, or throw, is to be the same. */
    private void call(String name, int... values) {
        run.append(' ').append(name).append(Arrays.toString(values));
        String got = answer(register, calls.get(name), values);
        Method method = calls.get(name);
        try {
            Class<?>[] types = name.equals("feed") ? new Class<?>[] {int[].class} : method.getParameterTypes();
            Method plain = Model.class.getDeclaredMethod(name, types);
            String want = name.equals("feed") ? String.valueOf(model.feed(values)) : answer(model, plain, values);
            Check.due(got.equals(want) ? name : got + " not " + want + " behind " + run, got.equals(want), true);
        } catch (NoSuchMethodException e) {
            Check.due("model has no " + name, 0, 1);
        }
    }

    private static String answer(Object object, Method method, int[] values) {
        Object[] arguments = new Object[values.length];
        for (int i = 0; i < values.length; i++) {
            arguments[i] = values[i];
            if (method.getParameterTypes()[i] == boolean.class) {
                arguments[i] = values[i] > 0;
            }
        }
        try {
            return String.valueOf(method.invoke(object, arguments));
        } catch (InvocationTargetException e) {
            return e.getCause().getClass().getName();
        } catch (IllegalAccessException e) {
            return "no access to " + method.getName();
        }
    }
}
