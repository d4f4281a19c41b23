import java.util.ArrayList;
import java.util.HashMap;
import java.util.List;
import java.util.Map;

/** A text read by descent along its grammar: an independent second reading of term 1. */
final class ModelText {
    private static final List<String> LANGUAGE = List.of("dancer", "over", "under", "slip", "seed", "law", "may", "vow",
            "loosen", "or", "and", "not", "above", "below", "place", "bond", "many", "left", "year");
    private static final List<String> NAMES = List.of("above", "below", "place", "bond", "many", "left", "year");
    private static final List<String> COMPARISONS = List.of("<", "<=", "=", "<>", ">=", ">");

    final List<String> dancers = new ArrayList<>();
    /** Year, place, 1 for over. */
    final List<int[]> tellings = new ArrayList<>();
    final Map<String, Node> laws = new HashMap<>();
    int slip = 0;
    int seed = 0;
    int lines = 0;
    int knots = 0;
    int fault = 0;
    int place = -1;
    private boolean hasSlip = false;
    private boolean hasSeed = false;
    private final String text;
    private int end = 0;
    private int open = 0;
    /** The token that is looked at: its start and its letters; empty at the end of the text. */
    private int start = 0;
    private String token = "";

    /** One knot of an E: its sign, name or number, and what it joins. */
    static final class Node {
        final String sign;
        final Node left;
        final Node right;

        Node(String sign, Node left, Node right) {
            this.sign = sign;
            this.left = left;
            this.right = right;
        }
    }

    private static final class Fault extends RuntimeException {
        final int number;
        final int place;

        Fault(int number, int place) {
            this.number = number;
            this.place = place;
        }
    }

    ModelText(String text) {
        this.text = text;
        try {
            next();
            while (!token.isEmpty()) {
                line();
                lines++;
            }
        } catch (Fault found) {
            fault = found.number;
            place = found.place;
        }
    }

    private void next() {
        start = end;
        while (start < text.length() && (text.charAt(start) == ' ' || text.charAt(start) == '\n')) {
            start++;
        }
        end = start;
        if (start == text.length()) {
            token = "";
            return;
        }
        char first = text.charAt(start);
        if (isLetter(first)) {
            while (end < text.length() && isLetter(text.charAt(end))) {
                end++;
            }
        } else if (isDigit(first)) {
            while (end < text.length() && isDigit(text.charAt(end))) {
                end++;
            }
        } else {
            String two = text.substring(start, Math.min(text.length(), start + 2));
            end += List.of("<=", "<>", ">=").contains(two) ? 2 : 1;
        }
        token = text.substring(start, end);
    }

    private static boolean isLetter(char c) {
        return c >= 'a' && c <= 'z';
    }

    private static boolean isDigit(char c) {
        return c >= '0' && c <= '9';
    }

    private Fault wrong() {
        return new Fault(1, start);
    }

    private void take(String wanted) {
        if (!token.equals(wanted)) {
            throw wrong();
        }
        next();
    }

    private int number(int most) {
        if (token.isEmpty() || !isDigit(token.charAt(0))) {
            throw wrong();
        }
        String digits = token.replaceFirst("^0+(?=.)", "");
        if (digits.length() > 6 || Integer.parseInt(digits) > most) {
            throw new Fault(2, start);
        }
        next();
        return Integer.parseInt(digits);
    }

    private void line() {
        switch (token) {
            case "dancer": dancer(); break;
            case "over": case "under": telling(); break;
            case "slip":
                hasSlip = once(hasSlip);
                slip = number(100);
                break;
            case "seed":
                hasSeed = once(hasSeed);
                seed = number(99999);
                break;
            case "law": law(); break;
            default: throw wrong();
        }
        take(";");
    }

    private boolean once(boolean told) {
        if (told) {
            throw new Fault(3, start);
        }
        next();
        return true;
    }

    private void dancer() {
        if (dancers.size() == 6) {
            throw new Fault(2, start);
        }
        next();
        if (token.isEmpty() || !isLetter(token.charAt(0)) || token.length() > 6 || LANGUAGE.contains(token)) {
            throw wrong();
        }
        if (dancers.contains(token)) {
            throw new Fault(3, start);
        }
        dancers.add(token);
        next();
    }

    private void telling() {
        if (tellings.size() == 24) {
            throw new Fault(2, start);
        }
        int over = token.equals("over") ? 1 : 0;
        next();
        int year = number(99);
        tellings.add(new int[] {year, number(4), over});
    }

    private void law() {
        next();
        String rule = token;
        if (!List.of("may", "vow", "loosen").contains(rule)) {
            throw wrong();
        }
        if (laws.containsKey(rule)) {
            throw new Fault(3, start);
        }
        next();
        open = 0;
        laws.put(rule, whole());
    }

    private Node knot(Node left, Node right, String sign) {
        return new Node(sign, left, right);
    }

    private String takeKnot() {
        knots++;
        if (knots > 64) {
            throw new Fault(2, start);
        }
        String sign = token;
        next();
        return sign;
    }

    private Node whole() {
        Node left = all();
        while (token.equals("or")) {
            String sign = takeKnot();
            left = knot(left, all(), sign);
        }
        return left;
    }

    private Node all() {
        Node left = negation();
        while (token.equals("and")) {
            String sign = takeKnot();
            left = knot(left, negation(), sign);
        }
        return left;
    }

    private Node negation() {
        if (token.equals("not")) {
            String sign = takeKnot();
            return knot(negation(), null, sign);
        }
        Node left = sum();
        if (COMPARISONS.contains(token)) {
            String sign = takeKnot();
            left = knot(left, sum(), sign);
        }
        return left;
    }

    private Node sum() {
        Node left = product();
        while (token.equals("+") || token.equals("-")) {
            String sign = takeKnot();
            left = knot(left, product(), sign);
        }
        return left;
    }

    private Node product() {
        Node left = part();
        while (token.equals("*") || token.equals("/")) {
            String sign = takeKnot();
            left = knot(left, part(), sign);
        }
        return left;
    }

    private Node part() {
        if (token.equals("(")) {
            if (open == 8) {
                throw new Fault(2, start);
            }
            open++;
            next();
            Node inner = whole();
            take(")");
            open--;
            return inner;
        }
        if (NAMES.contains(token)) {
            return knot(null, null, takeKnot());
        }
        int at = start;
        int value = number(9999);
        knots++;
        if (knots > 64) {
            throw new Fault(2, at);
        }
        return knot(null, null, String.valueOf(value));
    }
}
