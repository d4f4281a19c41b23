import java.util.ArrayList;
import java.util.Arrays;
import java.util.List;

/**
 * Whether plaits are alike, by Garside's normal form: half turns and a row of permutations, each of which takes
 * to itself all that it can of the next one. Quite another way than the curves of the program.
 */
final class ModelBraid {
    private final int strands;
    private final int[] halfTurn;
    private int halfTurns = 0;
    private final List<int[]> parts = new ArrayList<>();

    ModelBraid(int strands, List<int[]> plait) {
        this.strands = strands;
        halfTurn = new int[strands];
        for (int i = 0; i < strands; i++) {
            halfTurn[i] = strands - 1 - i;
        }
        for (int[] crossing : plait) {
            append(crossing[0], crossing[1] == 1);
        }
        normalize();
    }

    boolean isTrivial() {
        return halfTurns == 0 && parts.isEmpty();
    }

    boolean isAs(ModelBraid other) {
        if (halfTurns != other.halfTurns || parts.size() != other.parts.size()) {
            return false;
        }
        for (int i = 0; i < parts.size(); i++) {
            if (!Arrays.equals(parts.get(i), other.parts.get(i))) {
                return false;
            }
        }
        return true;
    }

    private int[] plain() {
        int[] order = new int[strands];
        for (int i = 0; i < strands; i++) {
            order[i] = i;
        }
        return order;
    }

    /** First the one, then a crossing at a place. */
    private int[] followed(int[] order, int place) {
        int[] result = order.clone();
        for (int i = 0; i < strands; i++) {
            result[i] = order[i] == place ? place + 1 : order[i] == place + 1 ? place : order[i];
        }
        return result;
    }

    /** First a crossing at a place, then the other. */
    private int[] led(int place, int[] order) {
        int[] result = order.clone();
        result[place] = order[place + 1];
        result[place + 1] = order[place];
        return result;
    }

    private void append(int place, boolean over) {
        if (over) {
            parts.add(followed(plain(), place));
            return;
        }
        // a crossing undone is a half turn undone, ahead of it what the half turn has more; it mirrors what is passed
        for (int k = 0; k < parts.size(); k++) {
            int[] part = parts.get(k);
            int[] mirrored = new int[strands];
            for (int i = 0; i < strands; i++) {
                mirrored[i] = strands - 1 - part[strands - 1 - i];
            }
            parts.set(k, mirrored);
        }
        halfTurns--;
        parts.add(followed(halfTurn, place));
    }

    private boolean endsWith(int[] order, int place) {
        int[] who = new int[strands];
        for (int i = 0; i < strands; i++) {
            who[order[i]] = i;
        }
        return who[place] > who[place + 1];
    }

    private void normalize() {
        boolean moved = true;
        while (moved) {
            moved = false;
            for (int k = parts.size() - 2; k >= 0; k--) {
                for (int place = 0; place + 1 < strands; place++) {
                    int[] next = parts.get(k + 1);
                    if (next[place] > next[place + 1] && !endsWith(parts.get(k), place)) {
                        parts.set(k, followed(parts.get(k), place));
                        parts.set(k + 1, led(place, next));
                        moved = true;
                        place = -1;
                    }
                }
            }
            parts.removeIf(part -> Arrays.equals(part, plain()));
            while (!parts.isEmpty() && Arrays.equals(parts.get(0), halfTurn)) {
                parts.remove(0);
                halfTurns++;
                moved = true;
            }
        }
    }
}
