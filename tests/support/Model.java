import java.math.BigInteger;
import java.util.ArrayList;
import java.util.HashSet;
import java.util.List;
import java.util.Set;

/** A second register, slow and plain: what the document says of each call, without a thought of room or time. */
final class Model {
    static final int NONE = -1;
    StringBuilder tape = new StringBuilder();
    private int fault = 0;
    private int faultPlace = NONE;
    ModelText text = new ModelText("");
    ModelState now = new ModelState(text);
    private ModelState image = null;
    private final List<ModelState> past = new ArrayList<>();
    /** Kind (0 place, 1 bond, 2 strikes), DANCER or struck one, PLACE or other DANCER, n or much, 1 if it is so. */
    final List<int[]> readings = new ArrayList<>();
    private int knownBy = NONE;

    private static int bit(boolean is) {
        return is ? 1 : 0;
    }

    private boolean isDancer(int dancer) {
        return dancer >= 0 && dancer < text.dancers.size();
    }

    private boolean isCrossing(int crossing) {
        return crossing >= 0 && crossing < now.plait.size();
    }

    private boolean isLeft(int dancer) {
        return now.left.contains(dancer);
    }

    private void remember() {
        past.add(now.copy());
        if (past.size() > 20) {
            past.remove(0);
        }
    }

    int feed(int... numbers) {
        if (tape.length() + 20 > 700) {
            return NONE;
        }
        for (int number : numbers) {
            for (int shift = 24; shift >= 0; shift -= 8) {
                tape.append((char) (number >> shift & 255));
            }
        }
        return tape.length();
    }

    int text(int n) {
        if (n < 0 || n > tape.length()) {
            return -2;
        }
        ModelText read = new ModelText(tape.substring(0, n));
        tape = new StringBuilder();
        fault = read.fault;
        faultPlace = read.place;
        if (fault != 0) {
            return NONE;
        }
        text = read;
        now = new ModelState(read);
        image = null;
        past.clear();
        readings.clear();
        knownBy = NONE;
        return read.lines;
    }

    int fault(int what) {
        return what == 0 ? fault : what == 1 ? faultPlace : NONE;
    }

    int named(int letters) {
        for (int i = 0; i < text.dancers.size(); i++) {
            if (Check.letters(text.dancers.get(i)) == letters) {
                return i;
            }
        }
        return NONE;
    }

    int dancer(int dancer, int what) {
        if (!isDancer(dancer)) {
            throw new IndexOutOfBoundsException();
        }
        if (what < 0 || what > 5) {
            throw new java.util.NoSuchElementException();
        }
        int passes = 0;
        for (int i = 0; i < now.plait.size(); i++) {
            int[] two = now.two(i);
            int above = two[1 - now.plait.get(i)[1]];
            passes += bit(dancer == (what == 2 ? above : two[0] + two[1] - above));
        }
        int bound = 0;
        for (int other : now.left) {
            bound |= other != dancer && now.bond(dancer, other) != 0 ? 1 << other : 0;
        }
        int place = isLeft(dancer) ? now.order(48).indexOf(dancer) : -2;
        int[] answers = {bit(isLeft(dancer)), place, passes, passes, now.free() >> dancer & 1, bound};
        return answers[what];
    }

    int crossing(int crossing, int what) {
        if (!isCrossing(crossing) || what < 0 || what > 4) {
            return NONE;
        }
        int[] two = now.two(crossing);
        int over = now.plait.get(crossing)[1];
        Set<Integer> hanging = new HashSet<>();
        hanging.add(crossing);
        for (int i = crossing + 1; i < now.plait.size(); i++) {
            for (int ahead : List.copyOf(hanging)) {
                if (Math.abs(now.plait.get(i)[0] - now.plait.get(ahead)[0]) <= 1) {
                    hanging.add(i);
                }
            }
        }
        int[] answers = {now.plait.get(crossing)[0], over, two[1 - over], two[over], hanging.size() - 1};
        return answers[what];
    }

    int bond(int one, int other) {
        return isDancer(one) && isDancer(other) && one != other ? now.bond(one, other) : Integer.MIN_VALUE;
    }

    int at(int n, int place) {
        boolean is = n >= 0 && n <= now.plait.size() && place >= 0 && place < now.left.size();
        return is ? now.order(n).get(place) : NONE;
    }

    boolean isHome() {
        return now.isHome();
    }

    boolean isLoose() {
        return now.isLoose();
    }

    int alike() {
        if (image == null) {
            return -2;
        }
        int strands = now.left.size();
        return bit(image.left.equals(now.left)
                && new ModelBraid(strands, now.plait).isAs(new ModelBraid(strands, image.plait)));
    }

    long law(int what, int code) {
        Long worth = null;
        if (what == 2 && !now.plait.isEmpty()) {
            worth = now.worthOfLast();
        } else if ((what == 0 || what == 1) && code >= 0 && code < 2 * (now.left.size() - 1)) {
            worth = now.worthOfNext(what == 0 ? "may" : "vow", code / 2, 1 - code % 2);
        }
        return worth == null ? Long.MIN_VALUE : worth;
    }

    int cross(int place, boolean isOver) {
        if (place < 0 || place >= now.left.size() - 1) {
            return NONE;
        }
        ModelState ahead = now.copy();
        if (!now.dance(place, bit(isOver), false)) {
            return -2;
        }
        ModelState danced = now;
        now = ahead;
        remember();
        now = danced;
        return now.plait.size();
    }

    int letGo(int dancer) {
        if (!isLeft(dancer)) {
            return NONE;
        }
        remember();
        now.release(dancer);
        return now.plait.size();
    }

    private int placeAt(int crossing) {
        return now.plait.get(crossing)[0];
    }

    private int overAt(int crossing) {
        return now.plait.get(crossing)[1];
    }

    boolean swap(int crossing) {
        if (crossing < 0 || crossing > now.plait.size() - 2 || Math.abs(placeAt(crossing) - placeAt(crossing + 1)) < 2) {
            return false;
        }
        remember();
        now.plait.add(crossing, now.plait.remove(crossing + 1));
        return true;
    }

    boolean cancel(int crossing) {
        if (crossing < 0 || crossing > now.plait.size() - 2 || placeAt(crossing) != placeAt(crossing + 1)
                || overAt(crossing) == overAt(crossing + 1)) {
            return false;
        }
        remember();
        now.plait.remove(crossing);
        now.plait.remove(crossing);
        return true;
    }

    boolean slide(int crossing) {
        if (crossing < 0 || crossing > now.plait.size() - 3 || placeAt(crossing) != placeAt(crossing + 2)
                || Math.abs(placeAt(crossing) - placeAt(crossing + 1)) != 1
                || overAt(crossing) != overAt(crossing + 1) || overAt(crossing) != overAt(crossing + 2)) {
            return false;
        }
        remember();
        now.plait.add(crossing, now.plait.remove(crossing + 1));
        now.plait.set(crossing + 2, now.plait.get(crossing));
        return true;
    }

    private void feast(ModelState state, int n) {
        for (int i = 0; i < n; i++) {
            int code = state.number() % (2 * (state.left.size() - 1));
            state.plait.add(new int[] {code / 2, 1 - code % 2});
        }
    }

    int feast(int seed, int n) {
        if (seed < 0 || n < 1 || n > 20 || now.left.size() < 2 || now.plait.size() + n > 48) {
            return NONE;
        }
        remember();
        ModelState guest = now.copy();
        guest.last = seed;
        feast(guest, n);
        now.plait = guest.plait;
        return now.plait.size();
    }

    int go(int n) {
        if (n < 0 || n > 99 || now.year + n > 9900) {
            return NONE;
        }
        for (int i = 0; i < n; i++) {
            now.pass("numbers", false, false);
            past.clear();
        }
        return now.year;
    }

    int ahead(int n, int what) {
        if (n < 0 || n > 99 || what < 0 || what > 4) {
            return Integer.MIN_VALUE;
        }
        ModelState then = now.copy();
        for (int i = 0; i < n; i++) {
            then.pass("goes", false, false);
        }
        int[] answers = {then.plait.size(), then.vows, then.refused - now.refused, then.boundPairs(), bit(then.isHome())};
        return answers[what];
    }

    int lean() {
        List<int[]> row = new ArrayList<>(now.plait);
        boolean found = true;
        while (found) {
            found = false;
            for (int i = 0; i < row.size() && !found; i++) {
                for (int j = i + 1; j < row.size() && !found; j++) {
                    found = row.get(i)[0] == row.get(j)[0] && row.get(i)[1] != row.get(j)[1];
                    for (int k = i + 1; k < j; k++) {
                        found &= Math.abs(row.get(k)[0] - row.get(i)[0]) >= 2;
                    }
                    if (found) {
                        row.remove(j);
                        row.remove(i);
                    }
                }
            }
        }
        return row.size();
    }

    private static int[] row(int number, int length, int codes) {
        int[] row = new int[length];
        for (int i = length - 1; i >= 0; i--) {
            row[i] = number % codes;
            number /= codes;
        }
        return row;
    }

    /** The state with a row of codes danced behind it. */
    private static ModelState behind(ModelState state, int[] row) {
        ModelState then = state.copy();
        for (int code : row) {
            then.plait.add(new int[] {code / 2, 1 - code % 2});
        }
        return then;
    }

    private ModelState nothingDanced() {
        ModelState state = now.copy();
        state.plait = new ArrayList<>();
        return state;
    }

    /** The first of the shortest rows behind a state with which it is loose, or just these pairs are bound. */
    private static int found(ModelState state, int longest, List<Boolean> wanted, int what) {
        int codes = Math.max(0, 2 * (state.left.size() - 1));
        for (int length = 0; length <= longest; length++) {
            int rows = (int) Math.pow(codes, length);
            for (int i = 0; i < rows; i++) {
                int[] row = row(i, length, codes);
                ModelState then = behind(state, row);
                if (then.isHome() && (wanted == null ? then.isLoose() : then.bonds().equals(wanted))) {
                    return what == 0 ? length : what <= length ? row[what - 1] : -2;
                }
            }
        }
        return -2;
    }

    int danceBack(int what) {
        return what < 0 || what > 3 ? NONE : found(now, 3, null, what);
    }

    int make(int pairs, int what) {
        int many = nothingDanced().bonds().size();
        if (what < 0 || what > 4 || pairs < 0 || pairs >= 1 << many) {
            return NONE;
        }
        List<Boolean> wanted = new ArrayList<>();
        for (int i = 0; i < many; i++) {
            wanted.add((pairs >> i & 1) != 0);
        }
        return found(nothingDanced(), 4, wanted, what);
    }

    int looseRows(int n) {
        if (n < 0 || n > 4) {
            return NONE;
        }
        int codes = Math.max(0, 2 * (now.left.size() - 1));
        int rows = (int) Math.pow(codes, n);
        int many = 0;
        for (int i = 0; i < rows; i++) {
            ModelState then = behind(nothingDanced(), row(i, n, codes));
            many += bit(then.isHome() && then.isLoose());
        }
        return many;
    }

    int tied(int one, int two, int three) {
        if (one == two || one == three || two == three || !isLeft(one) || !isLeft(two) || !isLeft(three)) {
            return NONE;
        }
        if (now.bond(one, two) != 0 || now.bond(one, three) != 0 || now.bond(two, three) != 0) {
            return 0;
        }
        ModelState then = now.copy();
        for (int dancer : now.left) {
            if (dancer != one && dancer != two && dancer != three) {
                then.release(dancer);
            }
        }
        return bit(!then.isLoose());
    }

    int freed(int dancer) {
        if (!isLeft(dancer)) {
            return NONE;
        }
        ModelState then = now.copy();
        then.release(dancer);
        return then.free();
    }

    long holds(int n, int what) {
        if (n < 0 || n > 6 || what < 0 || what > 1) {
            return NONE;
        }
        BigInteger above = BigInteger.valueOf(100 - text.slip).pow(n);
        BigInteger below = BigInteger.valueOf(100).pow(n);
        BigInteger shared = above.gcd(below);
        return (what == 0 ? above : below).divide(shared).longValue();
    }

    private int put(int... reading) {
        if (readings.size() == 24) {
            return NONE;
        }
        readings.add(reading);
        return readings.size() - 1;
    }

    int read(int n, int dancer, int place, boolean is) {
        boolean can = n >= 0 && n <= 48 && isDancer(dancer) && place >= 0 && place <= 5;
        return can ? put(0, dancer, place, n, bit(is)) : NONE;
    }

    int readBond(int one, int other, int much, boolean atLeast) {
        boolean can = isDancer(one) && isDancer(other) && one != other && much >= -48 && much <= 48;
        return can ? put(1, one, other, much, bit(atLeast)) : NONE;
    }

    int strike(int read) {
        return read >= 0 && read < readings.size() ? put(2, read, 0, 0, 1) : NONE;
    }

    boolean known(int n) {
        if (n < -1 || n > readings.size()) {
            return false;
        }
        knownBy = n;
        return true;
    }

    private boolean isSo(int[] reading, ModelState state) {
        if (!state.left.contains(reading[1]) || reading[0] == 1 && !state.left.contains(reading[2])) {
            return false;
        }
        if (reading[0] == 0) {
            return bit(state.order(reading[3]).indexOf(reading[1]) == reading[2]) == reading[4];
        }
        return bit(state.bond(reading[1], reading[2]) >= reading[3]) == reading[4];
    }

    int fits(int crossing) {
        if (!isCrossing(crossing)) {
            return NONE;
        }
        int many = count(12);
        Set<Integer> struck = new HashSet<>();
        for (int i = many - 1; i >= 0; i--) {
            if (readings.get(i)[0] == 2 && !struck.contains(i)) {
                struck.add(readings.get(i)[1]);
            }
        }
        int bits = 0;
        for (int code = 0; code < 2 * (now.left.size() - 1); code++) {
            ModelState then = now.copy();
            then.plait.set(crossing, new int[] {code / 2, 1 - code % 2});
            boolean fits = true;
            for (int i = 0; i < many; i++) {
                fits &= struck.contains(i) || readings.get(i)[0] == 2 || isSo(readings.get(i), then);
            }
            bits |= fits ? 1 << code : 0;
        }
        return bits;
    }

    int chance(int seed, int n) {
        if (seed < 0 || n < 1 || n > 48 || now.left.size() < 2) {
            return NONE;
        }
        ModelState guest = nothingDanced();
        guest.last = seed;
        int home = 0;
        for (int i = 0; i < 10; i++) {
            guest.plait = new ArrayList<>();
            feast(guest, n);
            home += bit(guest.isHome());
        }
        return home;
    }

    int tried(int what, int i, int n) {
        if (what < 0 || what > 4 || n < 0 || n > 99 || what == 2 && !isLeft(i) || what != 2 && i != 0) {
            return NONE;
        }
        ModelState then = now.copy();
        if (what == 2) {
            then.release(i);
        }
        for (int k = 0; k < n; k++) {
            then.pass(what == 1 ? "never" : "goes", what == 3, what == 4);
        }
        return then.plait.size();
    }

    int undo() {
        if (past.isEmpty()) {
            return NONE;
        }
        ModelState ahead = past.remove(past.size() - 1);
        now.plait = ahead.plait;
        now.left = ahead.left;
        now.vows = ahead.vows;
        return past.size();
    }

    int keep() {
        image = now.copy();
        return now.year;
    }

    int back() {
        if (image == null) {
            return NONE;
        }
        now = image.copy();
        past.clear();
        return now.year;
    }

    int count(int what) {
        int[] answers = {text.dancers.size(), now.left.size(), text.tellings.size(), text.knots, now.year,
            now.plait.size(), now.vows, now.refused, now.slipped, now.boundPairs(), Integer.bitCount(now.free()),
            readings.size(), knownBy < 0 ? readings.size() : knownBy, past.size()};
        return what >= 0 && what < answers.length ? answers[what] : NONE;
    }
}
