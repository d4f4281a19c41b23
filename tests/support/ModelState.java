import java.math.BigInteger;
import java.util.ArrayList;
import java.util.List;
import java.util.Map;
import java.util.TreeMap;

/** What an image keeps, and how years go by, told as plainly as the document tells it. */
final class ModelState {
    private static final BigInteger LARGEST = BigInteger.TEN.pow(12);
    final ModelText text;
    List<Integer> left = new ArrayList<>();
    /** Place, 1 for over. */
    List<int[]> plait = new ArrayList<>();
    int vows = 0;
    int refused = 0;
    int slipped = 0;
    int year = 0;
    long last;

    ModelState(ModelText text) {
        this.text = text;
        for (int i = 0; i < text.dancers.size(); i++) {
            left.add(i);
        }
        last = text.seed;
    }

    ModelState copy() {
        ModelState copy = new ModelState(text);
        copy.left = new ArrayList<>(left);
        copy.plait = new ArrayList<>(plait);
        copy.vows = vows;
        copy.refused = refused;
        copy.slipped = slipped;
        copy.year = year;
        copy.last = last;
        return copy;
    }

    List<Integer> order(int n) {
        List<Integer> order = new ArrayList<>(left);
        for (int i = 0; i < n && i < plait.size(); i++) {
            int place = plait.get(i)[0];
            order.set(place, order.set(place + 1, order.get(place)));
        }
        return order;
    }

    boolean isHome() {
        return order(plait.size()).equals(left);
    }

    boolean isLoose() {
        return new ModelBraid(left.size(), plait).isTrivial();
    }

    /** Who stood at the place of a crossing and at the next one. */
    int[] two(int crossing) {
        List<Integer> order = order(crossing);
        int place = plait.get(crossing)[0];
        return new int[] {order.get(place), order.get(place + 1)};
    }

    int bond(int one, int other) {
        int bond = 0;
        for (int i = 0; i < plait.size(); i++) {
            int[] two = two(i);
            if (two[0] == one && two[1] == other || two[0] == other && two[1] == one) {
                bond += plait.get(i)[1] == 1 ? 1 : -1;
            }
        }
        return bond;
    }

    /** Whether each pair of places is of two who are bound. */
    List<Boolean> bonds() {
        List<Boolean> bonds = new ArrayList<>();
        for (int i = 0; i < left.size(); i++) {
            for (int j = i + 1; j < left.size(); j++) {
                bonds.add(bond(left.get(i), left.get(j)) != 0);
            }
        }
        return bonds;
    }

    int boundPairs() {
        int many = 0;
        for (boolean bound : bonds()) {
            many += bound ? 1 : 0;
        }
        return many;
    }

    int free() {
        int bits = 0;
        for (int one : left) {
            boolean free = true;
            for (int other : left) {
                free &= one == other || bond(one, other) == 0;
            }
            bits |= free ? 1 << one : 0;
        }
        return bits;
    }

    void release(int dancer) {
        List<int[]> rest = new ArrayList<>();
        for (int i = 0; i < plait.size(); i++) {
            int[] two = two(i);
            if (two[0] != dancer && two[1] != dancer) {
                int place = plait.get(i)[0];
                int less = order(i).indexOf(dancer) < place ? 1 : 0;
                rest.add(new int[] {place - less, plait.get(i)[1]});
            }
        }
        left.remove(Integer.valueOf(dancer));
        plait = rest;
    }

    int number() {
        BigInteger next = BigInteger.valueOf(last).multiply(BigInteger.valueOf(1103515245)).add(BigInteger.valueOf(12345));
        last = next.mod(BigInteger.TWO.pow(31)).longValue();
        return (int) (last / 65536);
    }

    /** The E of a law for a crossing of these two; null without, or with an ERROR. */
    Long worth(String rule, int[] two, int place, int over) {
        ModelText.Node law = text.laws.get(rule);
        if (law == null) {
            return null;
        }
        Map<String, Integer> names = new TreeMap<>();
        names.put("above", over == 1 ? two[0] : two[1]);
        names.put("below", over == 1 ? two[1] : two[0]);
        names.put("place", place);
        names.put("bond", bond(two[0], two[1]));
        names.put("many", plait.size());
        names.put("left", left.size());
        names.put("year", year);
        BigInteger value = value(law, names);
        return value == null ? null : value.longValue();
    }

    Long worthOfLast() {
        int i = plait.size() - 1;
        return worth("loosen", two(i), plait.get(i)[0], plait.get(i)[1]);
    }

    Long worthOfNext(String rule, int place, int over) {
        List<Integer> order = order(plait.size());
        return worth(rule, new int[] {order.get(place), order.get(place + 1)}, place, over);
    }

    private static BigInteger value(ModelText.Node node, Map<String, Integer> names) {
        if (node.left == null) {
            Integer named = names.get(node.sign);
            return named == null ? new BigInteger(node.sign) : BigInteger.valueOf(named);
        }
        BigInteger left = value(node.left, names);
        BigInteger right = node.right == null ? BigInteger.ZERO : value(node.right, names);
        if (left == null || right == null) {
            return null;
        }
        BigInteger value = joined(node.sign, left, right);
        return value == null || value.abs().compareTo(LARGEST) > 0 ? null : value;
    }

    private static BigInteger joined(String sign, BigInteger left, BigInteger right) {
        int compared = left.compareTo(right);
        switch (sign) {
            case "not": return bit(left.signum() == 0);
            case "or": return bit(left.signum() != 0 || right.signum() != 0);
            case "and": return bit(left.signum() != 0 && right.signum() != 0);
            case "<": return bit(compared < 0);
            case "<=": return bit(compared <= 0);
            case "=": return bit(compared == 0);
            case "<>": return bit(compared != 0);
            case ">=": return bit(compared >= 0);
            case ">": return bit(compared > 0);
            case "+": return left.add(right);
            case "-": return left.subtract(right);
            case "*": return left.multiply(right);
            default: return right.signum() == 0 ? null : left.divide(right);
        }
    }

    private static BigInteger bit(boolean is) {
        return is ? BigInteger.ONE : BigInteger.ZERO;
    }

    boolean dance(int place, int over, boolean allMay) {
        if (place + 1 >= left.size() || plait.size() >= 48) {
            return false;
        }
        Long may = worthOfNext("may", place, over);
        if (!allMay && may != null && may == 0) {
            return false;
        }
        Long vow = worthOfNext("vow", place, over);
        int more = vow == null ? 1 : (int) Math.max(-99, Math.min(99, vow));
        vows = Math.max(-9999, Math.min(9999, vows + more));
        plait.add(new int[] {place, over});
        return true;
    }

    /** One year: "numbers", "goes" (as it goes) or "never" (nothing slips). */
    void pass(String way, boolean allMay, boolean turned) {
        for (int[] telling : text.tellings) {
            if (telling[0] == year && !dance(telling[1], turned ? 1 - telling[2] : telling[2], allMay)) {
                refused++;
            }
        }
        if (!plait.isEmpty()) {
            Long worth = worthOfLast();
            long odds = worth == null ? text.slip : Math.max(0, Math.min(100, worth));
            boolean slips = way.equals("goes") && odds >= 50;
            if (way.equals("numbers")) {
                slips = odds == 100 || odds != 0 && number() % 100 < odds;
            }
            if (slips) {
                plait.remove(plait.size() - 1);
                slipped++;
            }
        }
        year++;
    }
}
