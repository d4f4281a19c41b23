/** What every test of the project uses: answers that are due, and a register with a text. */
final class Check {
    static final int NONE = -1;
    static final int NO_BOND = Integer.MIN_VALUE;
    static final long NO_LAW = Long.MIN_VALUE;
    private static int right = 0;
    private static int wrong = 0;

    private Check() {
    }

    static void due(String call, long got, long want) {
        if (got == want) {
            right++;
        } else {
            wrong++;
            System.out.println(call + " answered " + got + ", due is " + want);
        }
    }

    static void due(String call, boolean got, boolean want) {
        due(call, got ? 1 : 0, want ? 1 : 0);
    }

    /** 1: dancer(..) throws IndexOutOfBoundsException, 2: NoSuchElementException, 0: it answers. */
    static int thrown(MaypoleRegister register, int dancer, int what) {
        try {
            register.dancer(dancer, what);
            return 0;
        } catch (IndexOutOfBoundsException e) {
            return 1;
        } catch (java.util.NoSuchElementException e) {
            return 2;
        }
    }

    /** Puts a text on the tape, in blocks of twenty bytes, blanks behind it. */
    static void feed(MaypoleRegister register, String text) {
        for (int start = 0; start < text.length(); start += 20) {
            int[] numbers = new int[5];
            for (int i = 0; i < 20; i++) {
                int sign = start + i < text.length() ? text.charAt(start + i) : ' ';
                numbers[i / 4] = numbers[i / 4] << 8 | sign;
            }
            register.feed(numbers[0], numbers[1], numbers[2], numbers[3], numbers[4]);
        }
    }

    static int text(MaypoleRegister register, String text) {
        feed(register, text);
        return register.text(text.length());
    }

    /** A register with this text; a text with a fault is a wrong answer. */
    static MaypoleRegister with(String text) {
        MaypoleRegister register = new MaypoleRegister();
        if (text(register, text) < 0) {
            due("text " + text, register.fault(0) * 1000 + register.fault(1), 0);
        }
        return register;
    }

    /** A register of so many dancers a, b, c .. */
    static MaypoleRegister withDancers(int many) {
        return with(dancers(many));
    }

    static String dancers(int many) {
        StringBuilder text = new StringBuilder();
        for (int i = 0; i < many; i++) {
            text.append("dancer ").append((char) ('a' + i)).append(';');
        }
        return text.toString();
    }

    static String times(String part, int many) {
        StringBuilder text = new StringBuilder();
        for (int i = 0; i < many; i++) {
            text.append(part);
        }
        return text.toString();
    }

    /** Whether a text, read by a new register, has this fault at this place. */
    static void dueFault(String text, int fault, int place) {
        MaypoleRegister x = new MaypoleRegister();
        due("text " + text, text(x, text), NONE);
        due("fault of " + text, x.fault(0), fault);
        due("place of " + text, x.fault(1), place);
    }

    /** Whether a text, read by a new register, has no fault; the answer is that register. */
    static MaypoleRegister dueNoFault(String text, int lines) {
        MaypoleRegister x = new MaypoleRegister();
        due("text " + text, text(x, text), lines);
        due("fault of " + text, x.fault(0), 0);
        due("place of " + text, x.fault(1), NONE);
        return x;
    }

    /** Dances crossings by their codes. */
    static void cross(MaypoleRegister register, int... codes) {
        for (int code : codes) {
            int want = register.count(5) + 1;
            due("cross of code " + code, register.cross(code / 2, code % 2 == 0), want);
        }
    }

    static int code(MaypoleRegister register, int crossing) {
        return 2 * register.crossing(crossing, 0) + 1 - register.crossing(crossing, 1);
    }

    /** Whether the plait has just these codes. */
    static void duePlait(String call, MaypoleRegister register, int... codes) {
        due(call + ": how many crossings", register.count(5), codes.length);
        for (int i = 0; i < codes.length; i++) {
            due(call + ": code of crossing " + i, code(register, i), codes[i]);
        }
    }

    static int letters(String name) {
        int letters = 0;
        for (int i = 0; i < 6; i++) {
            letters = letters * 32 + (i < name.length() ? name.charAt(i) - 'a' + 1 : 0);
        }
        return letters;
    }

    static void finish(String test) {
        System.out.println(test + ": " + right + " answers as due, " + wrong + " not");
        if (wrong != 0 || right == 0) {
            System.exit(1);
        }
    }
}
