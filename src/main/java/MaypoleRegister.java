import java.util.NoSuchElementException;

/** The maypole as a register: dancers, crossings by years, the plait of them, laws, what is read. */
public final class MaypoleRegister {
    public static final int NONE = -1;

    private static final int NOT_SO = -2;
    private static final int MOST_DANCERS = 6;
    private static final int MOST_CROSSINGS = 48;
    private static final int LONGEST_ROW = 4;
    private static final int MOST_TELLINGS = 24;
    private static final int MOST_KNOTS = 64;
    private static final int MOST_OPEN = 8;
    private static final int MOST_READ = 24;
    private static final int MOST_UNDONE = 20;
    private static final int TAPE_LENGTH = 700;
    private static final int LAST_YEAR = 9900;

    private static final int MAY = 0;
    private static final int VOW = 1;
    private static final int LOOSEN = 2;
    private static final int RULES = 3;
    private static final int NAMES = 7;

    /** What an E answers that has no value: no E can reach it. */
    private static final long ERROR = Long.MIN_VALUE;
    private static final long LARGEST_VALUE = 1000000000000L;

    private static final int OR = 0;
    private static final int AND = 1;
    private static final int NOT = 2;
    private static final int LESS = 3;
    private static final int LESS_OR_SAME = 4;
    private static final int SAME = 5;
    private static final int OTHER = 6;
    private static final int MORE_OR_SAME = 7;
    private static final int MORE = 8;
    private static final int PLUS = 9;
    private static final int MINUS = 10;
    private static final int TIMES = 11;
    private static final int DIVIDED = 12;
    private static final int OPEN = 13;
    private static final int CLOSE = 14;
    private static final int LINE_END = 15;

    /** How closely a sign binds; an open '(' binds least of all, so that nothing is taken past it. */
    private static final int[] CLOSENESS = {1, 2, 3, 4, 4, 4, 4, 4, 4, 5, 5, 6, 6, 0, 0, 0};
    private static final int COMPARES = 4;
    private static final int JOINS = 2;

    private static final int BY_NUMBERS = 0;
    private static final int AS_IT_GOES = 1;
    private static final int NOTHING_SLIPS = 2;

    private final Tokens tape = new Tokens();
    private final TextReader reader = new TextReader(tape);
    private Script told = new Script();
    private Script spare = new Script();
    private int latestFault = 0;
    private int latestPlace = NONE;
    private final Dance now = new Dance();
    private final Dance image = new Dance();
    private boolean hasImage = false;
    private final Dance trial = new Dance();
    private final Years years = new Years();
    private final Past past = new Past();
    private final Readings readings = new Readings();
    private final Search search = new Search();
    private final Coil coil = new Coil();
    private final Coil otherCoil = new Coil();

    public MaypoleRegister() {
    }

    public int feed(int a, int b, int c, int d, int e) {
        if (!tape.hasRoomFor(20)) {
            return NONE;
        }
        tape.put(a);
        tape.put(b);
        tape.put(c);
        tape.put(d);
        tape.put(e);
        return tape.size;
    }

    public int text(int n) {
        if (n < 0 || n > tape.size) {
            return NOT_SO;
        }
        boolean stands = reader.reads(n, spare);
        tape.size = 0;
        latestFault = reader.fault;
        latestPlace = reader.place;
        if (!stands) {
            return NONE;
        }
        Script old = told;
        told = spare;
        spare = old;
        now.begin(told.dancers, told.seed);
        hasImage = false;
        past.forget();
        readings.forget();
        return told.lines;
    }

    public int fault(int what) {
        if (what == 0) {
            return latestFault;
        }
        return what == 1 ? latestPlace : NONE;
    }

    public int named(int letters) {
        return told.numberOf(letters);
    }

    public int dancer(int dancer, int what) throws IndexOutOfBoundsException, NoSuchElementException {
        if (!isDancer(dancer)) {
            throw new IndexOutOfBoundsException();
        }
        switch (what) {
            case 0:
                return bit(now.plait.isLeft(dancer));
            case 1:
                return now.plait.isLeft(dancer) ? now.plait.placeOf(dancer) : NOT_SO;
            case 2:
                return now.plait.passes(dancer, true);
            case 3:
                return now.plait.passes(dancer, false);
            case 4:
                return bit(now.plait.isFreeWithout(dancer, NONE));
            case 5:
                return now.plait.boundTo(dancer);
            default:
                throw new NoSuchElementException();
        }
    }

    public int crossing(int crossing, int what) {
        if (!isCrossing(crossing)) {
            return NONE;
        }
        Plait plait = now.plait;
        int code = plait.codeAt(crossing);
        int place = placeOfCode(code);
        boolean over = isOver(code);
        switch (what) {
            case 0:
                return place;
            case 1:
                return bit(over);
            case 2:
                return plait.standsBehind(crossing, over ? place : place + 1);
            case 3:
                return plait.standsBehind(crossing, over ? place + 1 : place);
            case 4:
                return plait.hangOn(crossing);
            default:
                return NONE;
        }
    }

    public int bond(int one, int other) {
        if (!isDancer(one) || !isDancer(other) || one == other) {
            return Integer.MIN_VALUE;
        }
        return now.plait.bondOf(one, other);
    }

    public int at(int n, int place) {
        if (n < 0 || n > now.plait.size || place < 0 || place >= now.plait.leftCount) {
            return NONE;
        }
        return now.plait.standsBehind(n, place);
    }

    public boolean isHome() {
        return now.plait.turnedPairs() == 0;
    }

    public boolean isLoose() {
        return coil.straightens(now.plait);
    }

    public int alike() {
        if (!hasImage) {
            return NOT_SO;
        }
        if (now.plait.left != image.plait.left) {
            return 0;
        }
        coil.wind(now.plait);
        otherCoil.wind(image.plait);
        return bit(coil.isAs(otherCoil));
    }

    public long law(int what, int code) {
        if (what == LOOSEN) {
            return now.plait.size == 0 ? ERROR : years.worthOfLast(told, now);
        }
        if (what != MAY && what != VOW || !now.plait.hasCode(code)) {
            return ERROR;
        }
        return years.worthOfNext(told, now, code, what);
    }

    public int cross(int place, boolean isOver) {
        if (!now.plait.hasPlace(place)) {
            return NONE;
        }
        int code = codeOf(place, isOver);
        if (!years.allows(told, now, code)) {
            return NOT_SO;
        }
        past.put(now);
        years.dance(told, now, code);
        return now.plait.size;
    }

    public int letGo(int dancer) {
        if (!now.plait.isLeft(dancer)) {
            return NONE;
        }
        past.put(now);
        now.plait.release(dancer);
        return now.plait.size;
    }

    public boolean swap(int crossing) {
        Plait plait = now.plait;
        if (!isCrossing(crossing) || !isCrossing(crossing + 1)) {
            return false;
        }
        int first = plait.codeAt(crossing);
        int second = plait.codeAt(crossing + 1);
        if (apart(first, second) < 2) {
            return false;
        }
        past.put(now);
        plait.setCode(crossing, second);
        plait.setCode(crossing + 1, first);
        plait.walk();
        return true;
    }

    public boolean cancel(int crossing) {
        Plait plait = now.plait;
        if (!isCrossing(crossing) || !isCrossing(crossing + 1)
                || !undoEachOther(plait.codeAt(crossing), plait.codeAt(crossing + 1))) {
            return false;
        }
        past.put(now);
        plait.takeOutTwo(crossing);
        return true;
    }

    public boolean slide(int crossing) {
        Plait plait = now.plait;
        if (!isCrossing(crossing) || !isCrossing(crossing + 1) || !isCrossing(crossing + 2)) {
            return false;
        }
        int outer = plait.codeAt(crossing);
        int inner = plait.codeAt(crossing + 1);
        if (plait.codeAt(crossing + 2) != outer || apart(outer, inner) != 1 || isOver(outer) != isOver(inner)) {
            return false;
        }
        past.put(now);
        plait.setCode(crossing, inner);
        plait.setCode(crossing + 1, outer);
        plait.setCode(crossing + 2, inner);
        plait.walk();
        return true;
    }

    public int feast(int seed, int n) {
        if (seed < 0 || n < 1 || n > 20 || now.plait.leftCount < 2 || now.plait.size + n > MOST_CROSSINGS) {
            return NONE;
        }
        past.put(now);
        danceFeast(now.plait, seed, n);
        return now.plait.size;
    }

    public int go(int n) {
        if (n < 0 || n > 99 || now.year + n > LAST_YEAR) {
            return NONE;
        }
        years.choose(BY_NUMBERS, false, false);
        years.pass(told, now, n);
        if (n > 0) {
            past.forget();
        }
        return now.year;
    }

    public int ahead(int n, int what) {
        if (n < 0 || n > 99 || what < 0 || what > 4) {
            return Integer.MIN_VALUE;
        }
        trial.takeFrom(now);
        years.choose(AS_IT_GOES, false, false);
        years.pass(told, trial, n);
        switch (what) {
            case 0:
                return trial.plait.size;
            case 1:
                return trial.vows;
            case 2:
                return trial.refused - now.refused;
            case 3:
                return trial.plait.boundCount;
            default:
                return bit(trial.plait.turnedPairs() == 0);
        }
    }

    public int lean() {
        trial.plait.takeFrom(now.plait);
        return trial.plait.leanSize();
    }

    public int danceBack(int what) {
        if (what < 0 || what > 3) {
            return NONE;
        }
        search.beginBack(now.plait);
        return search.told(search.shortest(3), what);
    }

    public int make(int pairs, int what) {
        int left = now.plait.leftCount;
        int allPairs = left * (left - 1) / 2;
        if (what < 0 || what > LONGEST_ROW || pairs < 0 || pairs >> allPairs != 0) {
            return NONE;
        }
        search.beginMake(now.plait.left, pairs);
        return search.told(search.shortest(LONGEST_ROW), what);
    }

    public int looseRows(int n) {
        if (n < 0 || n > LONGEST_ROW) {
            return NONE;
        }
        return search.countLoose(now.plait.left, n);
    }

    public int tied(int one, int two, int three) {
        Plait plait = now.plait;
        if (one == two || one == three || two == three
                || !plait.isLeft(one) || !plait.isLeft(two) || !plait.isLeft(three)) {
            return NONE;
        }
        if (plait.bondOf(one, two) != 0 || plait.bondOf(one, three) != 0 || plait.bondOf(two, three) != 0) {
            return 0;
        }
        trial.plait.takeFrom(plait);
        for (int dancer = 0; dancer < MOST_DANCERS; dancer++) {
            if (dancer != one && dancer != two && dancer != three && trial.plait.isLeft(dancer)) {
                trial.plait.release(dancer);
            }
        }
        return bit(!coil.straightens(trial.plait));
    }

    public int freed(int dancer) {
        if (!now.plait.isLeft(dancer)) {
            return NONE;
        }
        int bits = 0;
        for (int other = 0; other < MOST_DANCERS; other++) {
            if (other != dancer && now.plait.isFreeWithout(other, dancer)) {
                bits |= 1 << other;
            }
        }
        return bits;
    }

    public long holds(int n, int what) {
        if (n < 0 || n > 6 || what < 0 || what > 1) {
            return NONE;
        }
        long above = 1;
        long below = 1;
        for (int i = 0; i < n; i++) {
            above *= 100 - told.slip;
            below *= 100;
        }
        long shared = sharedDivisor(above, below);
        if (shared < 1) {
            return NONE;
        }
        return what == 0 ? above / shared : below / shared;
    }

    public int read(int n, int dancer, int place, boolean is) {
        if (n < 0 || n > MOST_CROSSINGS || !isDancer(dancer) || place < 0 || place >= MOST_DANCERS) {
            return NONE;
        }
        return readings.putPlace(n, dancer, place, is);
    }

    public int readBond(int one, int other, int much, boolean atLeast) {
        if (!isDancer(one) || !isDancer(other) || one == other
                || much < -MOST_CROSSINGS || much > MOST_CROSSINGS) {
            return NONE;
        }
        return readings.putBond(one, other, much, atLeast);
    }

    public int strike(int read) {
        return readings.putStrike(read);
    }

    public boolean known(int n) {
        return readings.chooseKnown(n);
    }

    public int fits(int crossing) {
        if (!isCrossing(crossing)) {
            return NONE;
        }
        readings.findStruck();
        trial.plait.takeFrom(now.plait);
        int bits = 0;
        for (int code = 0; code < now.plait.codeCount(); code++) {
            trial.plait.setCode(crossing, code);
            trial.plait.walk();
            if (readings.areAllSo(trial.plait)) {
                bits |= 1 << code;
            }
        }
        return bits;
    }

    public int chance(int seed, int n) {
        if (seed < 0 || n < 1 || n > MOST_CROSSINGS || now.plait.leftCount < 2) {
            return NONE;
        }
        long last = seed;
        int home = 0;
        for (int i = 0; i < 10; i++) {
            trial.plait.begin(now.plait.left);
            last = danceFeast(trial.plait, last, n);
            if (trial.plait.turnedPairs() == 0) {
                home++;
            }
        }
        return home;
    }

    public int tried(int what, int i, int n) {
        if (what < 0 || what > 4 || n < 0 || n > 99) {
            return NONE;
        }
        if (what == 2 ? !now.plait.isLeft(i) : i != 0) {
            return NONE;
        }
        trial.takeFrom(now);
        if (what == 2) {
            trial.plait.release(i);
        }
        years.choose(what == 1 ? NOTHING_SLIPS : AS_IT_GOES, what == 3, what == 4);
        years.pass(told, trial, n);
        return trial.plait.size;
    }

    public int undo() {
        if (past.size == 0) {
            return NONE;
        }
        past.takeInto(now);
        return past.size;
    }

    public int keep() {
        image.takeFrom(now);
        hasImage = true;
        return now.year;
    }

    public int back() {
        if (!hasImage) {
            return NONE;
        }
        now.takeFrom(image);
        past.forget();
        return now.year;
    }

    public int count(int what) {
        switch (what) {
            case 0:
                return told.dancers;
            case 1:
                return now.plait.leftCount;
            case 2:
                return told.tellings;
            case 3:
                return told.knotCount;
            case 4:
                return now.year;
            case 5:
                return now.plait.size;
            case 6:
                return now.vows;
            case 7:
                return now.refused;
            case 8:
                return now.slipped;
            case 9:
                return now.plait.boundCount;
            case 10:
                return now.plait.freeCount();
            case 11:
                return readings.size;
            case 12:
                return readings.knownSize();
            case 13:
                return past.size;
            default:
                return NONE;
        }
    }

    private boolean isDancer(int dancer) {
        return dancer >= 0 && dancer < told.dancers;
    }

    private boolean isCrossing(int crossing) {
        return crossing >= 0 && crossing < now.plait.size;
    }

    private static int bit(boolean is) {
        return is ? 1 : 0;
    }

    private static int codeOf(int place, boolean over) {
        return 2 * place + (over ? 0 : 1);
    }

    private static int placeOfCode(int code) {
        return code >> 1;
    }

    private static boolean isOver(int code) {
        return (code & 1) == 0;
    }

    private static int apart(int code, int otherCode) {
        return Math.abs(placeOfCode(code) - placeOfCode(otherCode));
    }

    private static boolean undoEachOther(int code, int otherCode) {
        return (code ^ otherCode) == 1;
    }

    private static long within(long value, long least, long most) {
        return Math.max(least, Math.min(most, value));
    }

    private static long nextNumber(long last) {
        return last * 1103515245L + 12345L & 0x7fffffffL;
    }

    private static int shown(long number) {
        return (int) (number / 65536L);
    }

    /** Dances a FEAST behind the plait and answers the number that the next FEAST goes on from. */
    private static long danceFeast(Plait plait, long from, int n) {
        int codes = plait.codeCount();
        long last = from;
        for (int i = 0; i < n && codes > 0; i++) {
            last = nextNumber(last);
            plait.add(shown(last) % codes);
        }
        return last;
    }

    private static long sharedDivisor(long one, long other) {
        long a = one;
        long b = other;
        for (int i = 0; i < 1000 && b != 0; i++) {
            long rest = a % b;
            a = b;
            b = rest;
        }
        return a;
    }

    /** The words of the language; the number tells which RULE, NAME or joining word it is. */
    private enum Word {
        DANCER("dancer", Word.LINE, 0),
        OVER("over", Word.LINE, 0),
        UNDER("under", Word.LINE, 0),
        SLIP("slip", Word.LINE, 0),
        SEED("seed", Word.LINE, 0),
        LAW("law", Word.LINE, 0),
        MAY_RULE("may", Word.RULE, MAY),
        VOW_RULE("vow", Word.RULE, VOW),
        LOOSEN_RULE("loosen", Word.RULE, LOOSEN),
        OR_WORD("or", Word.JOIN, OR),
        AND_WORD("and", Word.JOIN, AND),
        NOT_WORD("not", Word.JOIN, NOT),
        ABOVE_NAME("above", Word.NAME, 0),
        BELOW_NAME("below", Word.NAME, 1),
        PLACE_NAME("place", Word.NAME, 2),
        BOND_NAME("bond", Word.NAME, 3),
        MANY_NAME("many", Word.NAME, 4),
        LEFT_NAME("left", Word.NAME, 5),
        YEAR_NAME("year", Word.NAME, 6);

        static final int LINE = 0;
        static final int RULE = 1;
        static final int JOIN = 2;
        static final int NAME = 3;
        private static final Word[] ALL = values();

        private final int packed;
        final int kind;
        final int number;

        Word(String letters, int kind, int number) {
            this.packed = packedLetters(letters);
            this.kind = kind;
            this.number = number;
        }

        /** The word whose letters these are, or null if the language has none such. */
        static Word of(int letters) {
            for (int i = 0; i < ALL.length; i++) {
                Word word = ALL[i];
                if (word != null && word.packed == letters) {
                    return word;
                }
            }
            return null;
        }

        private static int packedLetters(String letters) {
            int bits = 0;
            for (int i = 0; i < letters.length(); i++) {
                bits |= packedLetter(letters.charAt(i), i);
            }
            return bits;
        }

        /** The first of six letters stands highest. */
        static int packedLetter(int letter, int i) {
            return letter - 'a' + 1 << 25 - 5 * i;
        }
    }

    /** The TAPE, and the tokens along its first bytes. */
    private static final class Tokens {
        static final int END = 0;
        static final int BAD = 1;
        static final int NUMBER = 2;
        static final int FREE_WORD = 3;
        static final int WORD = 4;
        static final int SIGN = 5;
        private static final int HUGE = 1000000;

        private final byte[] bytes = new byte[TAPE_LENGTH];
        int size = 0;
        private int end = 0;
        private int next = 0;
        int place = 0;
        int kind = END;
        Word word = null;
        int letters = 0;
        int number = 0;
        int sign = 0;

        boolean hasRoomFor(int more) {
            return size + more <= bytes.length;
        }

        void put(int four) {
            for (int shift = 24; shift >= 0; shift -= 8) {
                if (size >= 0 && size < bytes.length) {
                    bytes[size] = (byte) (four >> shift);
                    size++;
                }
            }
        }

        void begin(int length) {
            end = length;
            next = 0;
            place = 0;
            kind = END;
        }

        void step() {
            while (next < end && isBlank(byteAt(next))) {
                next++;
            }
            place = next;
            int first = byteAt(next);
            if (first < 0) {
                kind = END;
            } else if (isLetter(first)) {
                stepWord();
            } else if (isDigit(first)) {
                stepNumber();
            } else {
                stepSign(first, byteAt(next + 1));
            }
        }

        boolean isSign(int which) {
            return kind == SIGN && sign == which;
        }

        boolean isWord(int wordKind) {
            return kind == WORD && word != null && word.kind == wordKind;
        }

        int wordNumber() {
            return word == null ? 0 : word.number;
        }

        private void stepWord() {
            letters = 0;
            while (next < end && isLetter(byteAt(next))) {
                if (next - place < 6) {
                    letters |= Word.packedLetter(byteAt(next), next - place);
                }
                next++;
            }
            if (next - place > 6) {
                kind = BAD;
                return;
            }
            word = Word.of(letters);
            kind = word == null ? FREE_WORD : WORD;
        }

        private void stepNumber() {
            number = 0;
            while (next < end && isDigit(byteAt(next))) {
                number = Math.min(HUGE, number * 10 + byteAt(next) - '0');
                next++;
            }
            kind = NUMBER;
        }

        private void stepSign(int first, int second) {
            sign = signOf(first, second);
            kind = sign == NONE ? BAD : SIGN;
            next += sign == LESS_OR_SAME || sign == OTHER || sign == MORE_OR_SAME ? 2 : 1;
        }

        private static int signOf(int first, int second) {
            switch (first) {
                case ';': return LINE_END;
                case '(': return OPEN;
                case ')': return CLOSE;
                case '+': return PLUS;
                case '-': return MINUS;
                case '*': return TIMES;
                case '/': return DIVIDED;
                case '=': return SAME;
                case '<': return second == '=' ? LESS_OR_SAME : second == '>' ? OTHER : LESS;
                case '>': return second == '=' ? MORE_OR_SAME : MORE;
                default: return NONE;
            }
        }

        private int byteAt(int i) {
            return i >= 0 && i < end && i < size && i < bytes.length ? bytes[i] & 255 : NONE;
        }

        private static boolean isBlank(int c) {
            return c == 10 || c == 32;
        }

        private static boolean isLetter(int c) {
            return c >= 'a' && c <= 'z';
        }

        private static boolean isDigit(int c) {
            return c >= '0' && c <= '9';
        }
    }

    /** What a TEXT told; its laws stand as rows of KNOTS, each sign behind what it joins. */
    private static final class Script {
        private static final int FIRST_NAME = 10000;
        private static final int FIRST_SIGN = 20000;

        private final int[] names = new int[MOST_DANCERS];
        int dancers = 0;
        private final int[] tellingYears = new int[MOST_TELLINGS];
        private final int[] tellingCodes = new int[MOST_TELLINGS];
        int tellings = 0;
        int slip = 0;
        boolean hasSlip = false;
        int seed = 0;
        boolean hasSeed = false;
        int lines = 0;
        private final int[] knots = new int[MOST_KNOTS];
        int knotCount = 0;
        private final int[] lawStarts = new int[RULES];
        private final int[] lawEnds = new int[RULES];
        private final long[] stack = new long[MOST_KNOTS];
        private int height = 0;

        void clear() {
            dancers = 0;
            tellings = 0;
            slip = 0;
            hasSlip = false;
            seed = 0;
            hasSeed = false;
            lines = 0;
            knotCount = 0;
            for (int rule = 0; rule < lawStarts.length && rule < lawEnds.length; rule++) {
                lawStarts[rule] = 0;
                lawEnds[rule] = 0;
            }
        }

        int numberOf(int letters) {
            for (int i = 0; i < dancers && i < names.length; i++) {
                if (names[i] == letters) {
                    return i;
                }
            }
            return NONE;
        }

        void addDancer(int letters) {
            if (dancers >= 0 && dancers < names.length) {
                names[dancers] = letters;
                dancers++;
            }
        }

        void addTelling(int year, int code) {
            if (tellings >= 0 && tellings < tellingYears.length && tellings < tellingCodes.length) {
                tellingYears[tellings] = year;
                tellingCodes[tellings] = code;
                tellings++;
            }
        }

        int yearOfTelling(int i) {
            return i >= 0 && i < tellings && i < tellingYears.length ? tellingYears[i] : NONE;
        }

        int codeOfTelling(int i) {
            return i >= 0 && i < tellings && i < tellingCodes.length ? tellingCodes[i] : NONE;
        }

        /** Whether the law is told: an E has a KNOT at least. */
        boolean hasLaw(int rule) {
            return rule >= 0 && rule < lawStarts.length && rule < lawEnds.length
                    && lawStarts[rule] < lawEnds[rule];
        }

        void setLaw(int rule, int start) {
            if (rule >= 0 && rule < lawStarts.length && rule < lawEnds.length) {
                lawStarts[rule] = start;
                lawEnds[rule] = knotCount;
            }
        }

        boolean addKnot(int knot) {
            if (knotCount < 0 || knotCount >= knots.length) {
                return false;
            }
            knots[knotCount] = knot;
            knotCount++;
            return true;
        }

        /** The E of a law for these values of the NAMES, or ERROR if it has none or there is no such law. */
        long worth(int rule, long[] values) {
            if (!hasLaw(rule)) {
                return ERROR;
            }
            height = 0;
            int end = Math.min(lawEnds[rule], knots.length);
            for (int i = Math.max(0, lawStarts[rule]); i < end; i++) {
                int knot = knots[i];
                if (knot < FIRST_NAME) {
                    push(knot);
                } else if (knot < FIRST_SIGN) {
                    int name = knot - FIRST_NAME;
                    push(name < values.length ? values[name] : 0);
                } else if (knot == FIRST_SIGN + NOT) {
                    push(bit(pop() == 0));
                } else {
                    long right = pop();
                    long value = joined(knot - FIRST_SIGN, pop(), right);
                    if (value > LARGEST_VALUE || value < -LARGEST_VALUE) {
                        return ERROR;
                    }
                    push(value);
                }
            }
            return pop();
        }

        private void push(long value) {
            if (height >= 0 && height < stack.length) {
                stack[height] = value;
                height++;
            }
        }

        private long pop() {
            if (height < 1 || height > stack.length) {
                return 0;
            }
            height--;
            return stack[height];
        }

        private static long joined(int sign, long left, long right) {
            switch (sign) {
                case OR: return bit(left != 0 || right != 0);
                case AND: return bit(left != 0 && right != 0);
                case LESS: return bit(left < right);
                case LESS_OR_SAME: return bit(left <= right);
                case SAME: return bit(left == right);
                case OTHER: return bit(left != right);
                case MORE_OR_SAME: return bit(left >= right);
                case MORE: return bit(left > right);
                case PLUS: return left + right;
                case MINUS: return left - right;
                // looked at ahead of it: a product beyond a value may be beyond a long
                case TIMES:
                    return right != 0 && Math.abs(left) > LARGEST_VALUE / Math.abs(right) ? ERROR : left * right;
                case DIVIDED: return right == 0 ? ERROR : left / right;
                default: return ERROR;
            }
        }
    }

    /** Reads a TEXT into a Script up to the first FAULT. */
    private static final class TextReader {
        private static final int WRONG = 1;
        private static final int TOO_MUCH = 2;
        private static final int TOLD_ALREADY = 3;

        int fault = 0;
        int place = NONE;
        private final Tokens tokens;
        /** The signs of an E that wait for what they join, and every '(' that is open. */
        private final int[] waiting = new int[MOST_KNOTS + MOST_OPEN];
        private int waitingCount = 0;
        private int openCount = 0;
        private boolean wantsOperand = true;
        private boolean mayNegate = true;

        TextReader(Tokens tokens) {
            this.tokens = tokens;
        }

        boolean reads(int length, Script script) {
            fault = 0;
            place = NONE;
            tokens.begin(length);
            script.clear();
            for (int i = 0; i <= TAPE_LENGTH; i++) {
                tokens.step();
                if (tokens.kind == Tokens.END) {
                    return true;
                }
                if (!readLine(script)) {
                    return false;
                }
                script.lines++;
            }
            return false;
        }

        private boolean fail(int number) {
            fault = number;
            place = tokens.place;
            return false;
        }

        private boolean readLine(Script script) {
            if (!tokens.isWord(Word.LINE)) {
                return fail(WRONG);
            }
            Word word = tokens.word;
            if (word == Word.DANCER) {
                return readDancer(script);
            }
            if (word == Word.OVER || word == Word.UNDER) {
                return readTelling(script, word == Word.OVER);
            }
            if (word == Word.SLIP) {
                return readSlip(script);
            }
            if (word == Word.SEED) {
                return readSeed(script);
            }
            int rule = readRule(script);
            int start = script.knotCount;
            if (rule == NONE || !readExpression(script)) {
                return false;
            }
            script.setLaw(rule, start);
            return true;
        }

        private boolean readDancer(Script script) {
            if (script.dancers >= MOST_DANCERS) {
                return fail(TOO_MUCH);
            }
            tokens.step();
            if (tokens.kind != Tokens.FREE_WORD) {
                return fail(WRONG);
            }
            if (script.numberOf(tokens.letters) != NONE) {
                return fail(TOLD_ALREADY);
            }
            script.addDancer(tokens.letters);
            return readLineEnd();
        }

        private boolean readTelling(Script script, boolean over) {
            if (script.tellings >= MOST_TELLINGS) {
                return fail(TOO_MUCH);
            }
            if (!readNumber(99)) {
                return false;
            }
            int year = tokens.number;
            if (!readNumber(MOST_DANCERS - 2)) {
                return false;
            }
            script.addTelling(year, codeOf(tokens.number, over));
            return readLineEnd();
        }

        private boolean readSlip(Script script) {
            if (script.hasSlip) {
                return fail(TOLD_ALREADY);
            }
            if (!readNumber(100)) {
                return false;
            }
            script.hasSlip = true;
            script.slip = tokens.number;
            return readLineEnd();
        }

        private boolean readSeed(Script script) {
            if (script.hasSeed) {
                return fail(TOLD_ALREADY);
            }
            if (!readNumber(99999)) {
                return false;
            }
            script.hasSeed = true;
            script.seed = tokens.number;
            return readLineEnd();
        }

        /** The RULE of a law, or NONE behind a FAULT. */
        private int readRule(Script script) {
            tokens.step();
            if (!tokens.isWord(Word.RULE)) {
                fail(WRONG);
                return NONE;
            }
            if (script.hasLaw(tokens.wordNumber())) {
                fail(TOLD_ALREADY);
                return NONE;
            }
            return tokens.wordNumber();
        }

        private boolean readNumber(int most) {
            tokens.step();
            if (tokens.kind != Tokens.NUMBER) {
                return fail(WRONG);
            }
            return tokens.number <= most || fail(TOO_MUCH);
        }

        private boolean readLineEnd() {
            tokens.step();
            return tokens.isSign(LINE_END) || fail(WRONG);
        }

        /** Reads an E and the ';' behind it. */
        private boolean readExpression(Script script) {
            waitingCount = 0;
            openCount = 0;
            wantsOperand = true;
            mayNegate = true;
            for (int i = 0; i <= TAPE_LENGTH; i++) {
                tokens.step();
                if (!wantsOperand && openCount == 0 && tokens.isSign(LINE_END)) {
                    settle(script, 0);
                    return true;
                }
                if (!(wantsOperand ? readOperand(script) : readOperator(script))) {
                    return false;
                }
            }
            return false;
        }

        private boolean readOperand(Script script) {
            if (tokens.isSign(OPEN)) {
                return openOne();
            }
            if (tokens.isWord(Word.JOIN) && tokens.wordNumber() == NOT && mayNegate) {
                return await(NOT, script);
            }
            boolean isNumber = tokens.kind == Tokens.NUMBER;
            if (!isNumber && !tokens.isWord(Word.NAME)) {
                return fail(WRONG);
            }
            if (isNumber && tokens.number > 9999) {
                return fail(TOO_MUCH);
            }
            if (!hasKnotLeft(script)) {
                return fail(TOO_MUCH);
            }
            wantsOperand = false;
            return script.addKnot(isNumber ? tokens.number : Script.FIRST_NAME + tokens.wordNumber());
        }

        private boolean openOne() {
            if (openCount >= MOST_OPEN) {
                return fail(TOO_MUCH);
            }
            openCount++;
            mayNegate = true;
            putWaiting(OPEN);
            return true;
        }

        private boolean readOperator(Script script) {
            if (tokens.isSign(CLOSE) && openCount > 0) {
                settle(script, 1);
                openCount--;
                waitingCount--;
                return true;
            }
            int sign = joiningSign();
            if (sign == NONE) {
                return fail(WRONG);
            }
            int closeness = closenessOf(sign);
            settle(script, closeness == COMPARES ? COMPARES + 1 : closeness);
            if (closeness == COMPARES && closenessOf(lastWaiting()) == COMPARES) {
                return fail(WRONG);
            }
            wantsOperand = true;
            mayNegate = closeness <= JOINS;
            return await(sign, script);
        }

        /** The sign that may stand between two parts of an E, or NONE if the token is none such. */
        private int joiningSign() {
            if (tokens.isWord(Word.JOIN) && tokens.wordNumber() != NOT) {
                return tokens.wordNumber();
            }
            return tokens.kind == Tokens.SIGN && tokens.sign < OPEN ? tokens.sign : NONE;
        }

        /** A sign that waits is a KNOT already: it counts where it stands in the TEXT. */
        private boolean hasKnotLeft(Script script) {
            return script.knotCount + waitingCount - openCount < MOST_KNOTS;
        }

        /** Moves the signs that wait and bind as closely at least into the row of KNOTS. */
        private void settle(Script script, int closeness) {
            for (int i = waiting.length; i > 0 && waitingCount > 0; i--) {
                int sign = lastWaiting();
                if (sign == OPEN || closenessOf(sign) < closeness) {
                    return;
                }
                script.addKnot(Script.FIRST_SIGN + sign);
                waitingCount--;
            }
        }

        private boolean await(int sign, Script script) {
            if (!hasKnotLeft(script)) {
                return fail(TOO_MUCH);
            }
            putWaiting(sign);
            return true;
        }

        private void putWaiting(int sign) {
            if (waitingCount >= 0 && waitingCount < waiting.length) {
                waiting[waitingCount] = sign;
                waitingCount++;
            }
        }

        private int lastWaiting() {
            int i = waitingCount - 1;
            return i >= 0 && i < waiting.length ? waiting[i] : OPEN;
        }

        private static int closenessOf(int sign) {
            return sign >= 0 && sign < CLOSENESS.length ? CLOSENESS[sign] : 0;
        }
    }

    /** A PLAIT as a row of CODES, with those who are LEFT, where they stand in the end, and their BONDS. */
    private static final class Plait {
        /** A search dances some CROSSINGS behind a full PLAIT. */
        private final int[] codes = new int[MOST_CROSSINGS + LONGEST_ROW];
        private final int[] order = new int[MOST_DANCERS];
        private final int[] bonds = new int[MOST_DANCERS * MOST_DANCERS];
        int left = 0;
        int leftCount = 0;
        int size = 0;
        /** How many pairs are BOUND. */
        int boundCount = 0;

        void begin(int whoIsLeft) {
            left = whoIsLeft;
            leftCount = 0;
            size = 0;
            boundCount = 0;
            for (int dancer = 0; dancer < MOST_DANCERS; dancer++) {
                if (isLeft(dancer) && leftCount < order.length) {
                    order[leftCount] = dancer;
                    leftCount++;
                }
            }
            for (int i = 0; i < bonds.length; i++) {
                bonds[i] = 0;
            }
        }

        void takeFrom(Plait other) {
            begin(other.left);
            for (int i = 0; i < other.size; i++) {
                add(other.codeAt(i));
            }
        }

        /** Finds anew who stands where, and the BONDS, after CODES were changed. */
        void walk() {
            int length = size;
            begin(left);
            for (int i = 0; i < length; i++) {
                add(codeAt(i));
            }
        }

        boolean isLeft(int dancer) {
            return dancer >= 0 && dancer < MOST_DANCERS && (left >> dancer & 1) != 0;
        }

        boolean hasPlace(int place) {
            return place >= 0 && place < leftCount - 1;
        }

        int codeCount() {
            return Math.max(0, 2 * (leftCount - 1));
        }

        boolean hasCode(int code) {
            return code >= 0 && code < codeCount();
        }

        int codeAt(int i) {
            return i >= 0 && i < codes.length ? codes[i] : NONE;
        }

        void setCode(int i, int code) {
            if (i >= 0 && i < size && i < codes.length) {
                codes[i] = code;
            }
        }

        int standsAt(int place) {
            return place >= 0 && place < leftCount && place < order.length ? order[place] : NONE;
        }

        int placeOf(int dancer) {
            for (int place = 0; place < order.length; place++) {
                if (standsAt(place) == dancer) {
                    return place;
                }
            }
            return NONE;
        }

        int bondOf(int one, int other) {
            int i = one * MOST_DANCERS + other;
            return isLeft(one) && isLeft(other) && i >= 0 && i < bonds.length ? bonds[i] : 0;
        }

        void add(int code) {
            if (hasCode(code) && size >= 0 && size < codes.length) {
                codes[size] = code;
                size++;
                turn(placeOfCode(code), isOver(code) ? 1 : -1);
            }
        }

        void dropLast() {
            if (size > 0) {
                size--;
                int code = codeAt(size);
                turn(placeOfCode(code), isOver(code) ? -1 : 1);
            }
        }

        private void turn(int place, int more) {
            if (place < 0 || place + 1 >= order.length) {
                return;
            }
            int one = order[place];
            int other = order[place + 1];
            order[place] = other;
            order[place + 1] = one;
            int i = one * MOST_DANCERS + other;
            int mirrored = other * MOST_DANCERS + one;
            if (i < 0 || i >= bonds.length || mirrored < 0 || mirrored >= bonds.length) {
                return;
            }
            boundCount -= bit(bonds[i] != 0);
            bonds[i] += more;
            bonds[mirrored] = bonds[i];
            boundCount += bit(bonds[i] != 0);
        }

        void takeOutTwo(int first) {
            for (int i = first; i + 2 < size; i++) {
                setCode(i, codeAt(i + 2));
            }
            size = Math.max(0, size - 2);
            walk();
        }

        void release(int dancer) {
            int place = placeAtFirst(dancer);
            int kept = 0;
            for (int i = 0; i < size; i++) {
                int code = codeAt(i);
                int crossed = placeOfCode(code);
                if (place == crossed || place == crossed + 1) {
                    place = 2 * crossed + 1 - place;
                } else {
                    setCode(kept, place < crossed ? code - 2 : code);
                    kept++;
                }
            }
            if (isLeft(dancer)) {
                left &= ~(1 << dancer);
            }
            size = kept;
            walk();
        }

        private int placeAtFirst(int dancer) {
            return isLeft(dancer) ? Integer.bitCount(left & (1 << dancer) - 1) : NONE;
        }

        /** Where a dancer stands behind the first n CROSSINGS. */
        int placeBehind(int n, int dancer) {
            int place = placeAtFirst(dancer);
            for (int i = 0; i < n && i < size; i++) {
                place = placeAcross(place, placeOfCode(codeAt(i)));
            }
            return place;
        }

        /** Who stands at a place behind the first n CROSSINGS. */
        int standsBehind(int n, int place) {
            int at = place;
            for (int i = Math.min(n, size) - 1; i >= 0; i--) {
                at = placeAcross(at, placeOfCode(codeAt(i)));
            }
            for (int dancer = 0; dancer < MOST_DANCERS; dancer++) {
                if (isLeft(dancer) && placeAtFirst(dancer) == at) {
                    return dancer;
                }
            }
            return NONE;
        }

        private static int placeAcross(int place, int crossed) {
            if (place == crossed) {
                return crossed + 1;
            }
            return place == crossed + 1 ? crossed : place;
        }

        int passes(int dancer, boolean over) {
            int many = 0;
            int place = placeAtFirst(dancer);
            for (int i = 0; i < size && place != NONE; i++) {
                int code = codeAt(i);
                int crossed = placeOfCode(code);
                int across = placeAcross(place, crossed);
                if (across != place && (place == crossed) == (isOver(code) == over)) {
                    many++;
                }
                place = across;
            }
            return many;
        }

        /** Those behind it hang on it that are near it or near one ahead of them that hangs on it. */
        int hangOn(int crossing) {
            int reached = near(codeAt(crossing));
            int many = 0;
            for (int i = crossing + 1; i < size; i++) {
                int code = codeAt(i);
                if ((reached >> placeOfCode(code) + 1 & 1) != 0) {
                    reached |= near(code);
                    many++;
                }
            }
            return many;
        }

        /** The PLACES (bits, from the one left of PLACE 0 on) that are at most 1 apart. */
        private static int near(int code) {
            return 7 << placeOfCode(code);
        }

        /** LEAN; of the row itself only what is left stands then. */
        int leanSize() {
            int kept = 0;
            for (int i = 0; i < size; i++) {
                int code = codeAt(i);
                int last = lastNear(kept, code);
                if (last >= 0 && undoEachOther(codeAt(last), code)) {
                    for (int k = last; k + 1 < kept; k++) {
                        setCode(k, codeAt(k + 1));
                    }
                    kept--;
                } else {
                    setCode(kept, code);
                    kept++;
                }
            }
            size = kept;
            return kept;
        }

        private int lastNear(int kept, int code) {
            for (int i = kept - 1; i >= 0; i--) {
                if (apart(codeAt(i), code) < 2) {
                    return i;
                }
            }
            return NONE;
        }

        int boundTo(int dancer) {
            int bits = 0;
            for (int other = 0; other < MOST_DANCERS; other++) {
                if (other != dancer && bondOf(dancer, other) != 0) {
                    bits |= 1 << other;
                }
            }
            return bits;
        }

        /** Whether a dancer is LEFT and BOUND to nobody but the one told (NONE: to nobody at all). */
        boolean isFreeWithout(int dancer, int other) {
            int ignored = isLeft(other) ? 1 << other : 0;
            return isLeft(dancer) && (boundTo(dancer) & ~ignored) == 0;
        }

        int freeCount() {
            int many = 0;
            for (int dancer = 0; dancer < MOST_DANCERS; dancer++) {
                many += bit(isFreeWithout(dancer, NONE));
            }
            return many;
        }

        /** The PAIRS of PLACES (bits) at which those stand at first who are BOUND. */
        int boundPairs() {
            int bits = 0;
            int pair = 0;
            for (int one = 0; one < MOST_DANCERS; one++) {
                for (int other = one + 1; other < MOST_DANCERS; other++) {
                    if (isLeft(one) && isLeft(other)) {
                        bits |= bondOf(one, other) != 0 ? 1 << pair : 0;
                        pair++;
                    }
                }
            }
            return bits;
        }

        /** How many pairs stand the other way round than at first: 0, if all are HOME. */
        int turnedPairs() {
            int many = 0;
            int places = leftCount;
            for (int place = 0; place < places; place++) {
                for (int next = place + 1; next < places; next++) {
                    many += bit(standsAt(place) > standsAt(next));
                }
            }
            return many;
        }
    }

    /** All that an IMAGE keeps. */
    private static final class Dance {
        final Plait plait = new Plait();
        int vows = 0;
        int refused = 0;
        int slipped = 0;
        int year = 0;
        long last = 0;

        void begin(int dancers, int seed) {
            plait.begin((1 << Math.max(0, Math.min(dancers, MOST_DANCERS))) - 1);
            vows = 0;
            refused = 0;
            slipped = 0;
            year = 0;
            last = seed;
        }

        void takeFrom(Dance other) {
            plait.takeFrom(other.plait);
            vows = other.vows;
            refused = other.refused;
            slipped = other.slipped;
            year = other.year;
            last = other.last;
        }
    }

    /** Lets YEARS go by, in one of the ways in which it is asked what comes. */
    private static final class Years {
        private final long[] names = new long[NAMES];
        private int way = BY_NUMBERS;
        private boolean allMay = false;
        private boolean turned = false;

        void choose(int newWay, boolean isAllMay, boolean isTurned) {
            way = newWay;
            allMay = isAllMay;
            turned = isTurned;
        }

        void pass(Script told, Dance dance, int howMany) {
            for (int n = 0; n < howMany; n++) {
                for (int i = 0; i < told.tellings; i++) {
                    if (told.yearOfTelling(i) == dance.year) {
                        danceTold(told, dance, told.codeOfTelling(i));
                    }
                }
                if (dance.plait.size > 0 && doesSlip(told, dance)) {
                    dance.plait.dropLast();
                    dance.slipped++;
                }
                dance.year++;
            }
        }

        private void danceTold(Script told, Dance dance, int toldCode) {
            int code = turned ? toldCode ^ 1 : toldCode;
            if (hasRoom(dance, code) && (allMay || worthOfNext(told, dance, code, MAY) != 0)) {
                dance(told, dance, code);
            } else {
                dance.refused++;
            }
        }

        private static boolean hasRoom(Dance dance, int code) {
            return dance.plait.hasCode(code) && dance.plait.size < MOST_CROSSINGS;
        }

        /** Whether a CROSSING is not REFUSED now. */
        boolean allows(Script told, Dance dance, int code) {
            return hasRoom(dance, code) && worthOfNext(told, dance, code, MAY) != 0;
        }

        void dance(Script told, Dance dance, int code) {
            long vow = worthOfNext(told, dance, code, VOW);
            long more = vow == ERROR ? 1 : within(vow, -99, 99);
            dance.vows = (int) within(dance.vows + more, -9999, 9999);
            dance.plait.add(code);
        }

        private boolean doesSlip(Script told, Dance dance) {
            if (way == NOTHING_SLIPS) {
                return false;
            }
            long worth = worthOfLast(told, dance);
            long odds = worth == ERROR ? told.slip : within(worth, 0, 100);
            if (way == AS_IT_GOES) {
                return odds >= 50;
            }
            if (odds <= 0 || odds >= 100) {
                return odds >= 100;
            }
            dance.last = nextNumber(dance.last);
            return shown(dance.last) % 100 < odds;
        }

        /** The E of a rule for a CROSSING to be danced, or ERROR. */
        long worthOfNext(Script told, Dance dance, int code, int rule) {
            int place = placeOfCode(code);
            setNames(dance, code, dance.plait.standsAt(place), dance.plait.standsAt(place + 1));
            return told.worth(rule, names);
        }

        /** The E of loosen for the last CROSSING, or ERROR: its two have changed PLACES already. */
        long worthOfLast(Script told, Dance dance) {
            int code = dance.plait.codeAt(dance.plait.size - 1);
            int place = placeOfCode(code);
            setNames(dance, code, dance.plait.standsAt(place + 1), dance.plait.standsAt(place));
            return told.worth(LOOSEN, names);
        }

        private void setNames(Dance dance, int code, int one, int other) {
            setName(0, isOver(code) ? one : other);
            setName(1, isOver(code) ? other : one);
            setName(2, placeOfCode(code));
            setName(3, dance.plait.bondOf(one, other));
            setName(4, dance.plait.size);
            setName(5, dance.plait.leftCount);
            setName(6, dance.year);
        }

        private void setName(int name, long value) {
            if (name >= 0 && name < names.length) {
                names[name] = value;
            }
        }
    }

    /**
     * What a PLAIT makes of the curves round the DANCERS, in Dynnikov's coordinates (two for each DANCER): two
     * PLAITS are ALIKE just if they make the same of them. The numbers stay far inside a long.
     */
    private static final class Coil {
        private final long[] row = new long[2 * MOST_DANCERS];

        void wind(Plait plait) {
            for (int i = 0; i < row.length; i++) {
                row[i] = i & 1;
            }
            for (int i = 0; i < plait.size; i++) {
                int code = plait.codeAt(i);
                if (isOver(code)) {
                    windOver(2 * placeOfCode(code));
                } else {
                    windUnder(2 * placeOfCode(code));
                }
            }
        }

        /** Whether the PLAIT is LOOSE: it leaves the curves as they are. */
        boolean straightens(Plait plait) {
            wind(plait);
            for (int i = 0; i < row.length; i++) {
                if (row[i] != (i & 1)) {
                    return false;
                }
            }
            return true;
        }

        boolean isAs(Coil other) {
            for (int i = 0; i < row.length && i < other.row.length; i++) {
                if (row[i] != other.row[i]) {
                    return false;
                }
            }
            return true;
        }

        private void windOver(int i) {
            if (i < 0 || i + 3 >= row.length) {
                return;
            }
            long x = row[i];
            long y = row[i + 1];
            long nextX = row[i + 2];
            long nextY = row[i + 3];
            long z = x - Math.min(0, y) - nextX + Math.max(0, nextY);
            row[i] = x + Math.max(0, y) + Math.max(0, Math.max(0, nextY) - z);
            row[i + 1] = nextY - Math.max(0, z);
            row[i + 2] = nextX + Math.min(0, nextY) + Math.min(0, Math.min(0, y) + z);
            row[i + 3] = y + Math.max(0, z);
        }

        private void windUnder(int i) {
            if (i < 0 || i + 3 >= row.length) {
                return;
            }
            long x = row[i];
            long y = row[i + 1];
            long nextX = row[i + 2];
            long nextY = row[i + 3];
            long z = x + Math.min(0, y) - nextX - Math.max(0, nextY);
            row[i] = x - Math.max(0, y) - Math.max(0, Math.max(0, nextY) + z);
            row[i + 1] = nextY + Math.min(0, z);
            row[i + 2] = nextX - Math.min(0, nextY) - Math.min(0, Math.min(0, y) - z);
            row[i + 3] = y - Math.min(0, z);
        }
    }

    /** Looks through the rows of some CROSSINGS behind a PLAIT, in the order of their CODES. */
    private static final class Search {
        private static final int ANY_PAIRS = -1;

        private final Plait plait = new Plait();
        private final Coil coil = new Coil();
        private final int[] row = new int[LONGEST_ROW];
        private int length = 0;
        /** The PAIRS that are to be BOUND; ANY_PAIRS: the PLAIT is to be LOOSE. */
        private int pairs = ANY_PAIRS;
        private boolean counts = false;
        private int found = 0;

        void beginBack(Plait from) {
            plait.takeFrom(from);
            pairs = ANY_PAIRS;
        }

        void beginMake(int left, int wanted) {
            plait.begin(left);
            pairs = wanted;
        }

        /** The length of the shortest row, or -2 where none so long or shorter is found. */
        int shortest(int longest) {
            counts = false;
            for (int n = 0; n <= longest; n++) {
                length = n;
                if (seek(0, plait.turnedPairs())) {
                    return n;
                }
            }
            return NOT_SO;
        }

        int countLoose(int left, int n) {
            plait.begin(left);
            pairs = ANY_PAIRS;
            length = n;
            counts = true;
            found = 0;
            seek(0, 0);
            return found;
        }

        /** Of a row found: 0 its length, 1 the first CODE and so on; -2 where there is none. */
        int told(int size, int what) {
            if (what == 0) {
                return size;
            }
            return what > 0 && what <= size && what <= row.length ? row[what - 1] : NOT_SO;
        }

        /** Each CROSSING turns one pair: a row that can't bring all HOME any more is left at once. */
        private boolean seek(int depth, int turnedPairs) {
            if (depth >= length || depth >= row.length) {
                return turnedPairs == 0 && suits();
            }
            int codes = plait.codeCount();
            for (int code = 0; code < codes; code++) {
                int place = placeOfCode(code);
                int turned = turnedPairs + (plait.standsAt(place) < plait.standsAt(place + 1) ? 1 : -1);
                if (turned <= length - depth - 1) {
                    row[depth] = code;
                    plait.add(code);
                    if (seek(depth + 1, turned)) {
                        return true;
                    }
                    plait.dropLast();
                }
            }
            return false;
        }

        /** Whether the row is the one that is looked for; a count goes on behind each. */
        private boolean suits() {
            if (pairs != ANY_PAIRS) {
                return plait.boundCount == Integer.bitCount(pairs) && plait.boundPairs() == pairs;
            }
            if (plait.boundCount != 0 || !coil.straightens(plait)) {
                return false;
            }
            found++;
            return !counts;
        }
    }

    /** The states ahead of what can be undone, the latest ones in a ring. */
    private static final class Past {
        private final int[] codes = new int[MOST_UNDONE * MOST_CROSSINGS];
        private final int[] sizes = new int[MOST_UNDONE];
        private final int[] lefts = new int[MOST_UNDONE];
        private final int[] vows = new int[MOST_UNDONE];
        int size = 0;
        private int next = 0;

        void forget() {
            size = 0;
            next = 0;
        }

        void put(Dance dance) {
            if (next < 0 || next >= sizes.length || next >= lefts.length || next >= vows.length) {
                return;
            }
            sizes[next] = dance.plait.size;
            lefts[next] = dance.plait.left;
            vows[next] = dance.vows;
            for (int i = 0; i < dance.plait.size && i < MOST_CROSSINGS; i++) {
                setCode(next * MOST_CROSSINGS + i, dance.plait.codeAt(i));
            }
            next = next + 1 < MOST_UNDONE ? next + 1 : 0;
            size = Math.min(MOST_UNDONE, size + 1);
        }

        void takeInto(Dance dance) {
            int latest = next > 0 ? next - 1 : MOST_UNDONE - 1;
            if (size < 1 || latest >= sizes.length || latest >= lefts.length || latest >= vows.length) {
                return;
            }
            dance.vows = vows[latest];
            dance.plait.begin(lefts[latest]);
            for (int i = 0; i < sizes[latest] && i < MOST_CROSSINGS; i++) {
                dance.plait.add(codeAt(latest * MOST_CROSSINGS + i));
            }
            next = latest;
            size--;
        }

        private void setCode(int i, int code) {
            if (i >= 0 && i < codes.length) {
                codes[i] = code;
            }
        }

        private int codeAt(int i) {
            return i >= 0 && i < codes.length ? codes[i] : NONE;
        }
    }

    /** What was READ; five numbers each, and which of them are STRUCK. */
    private static final class Readings {
        private static final int OF_PLACE = 0;
        private static final int OF_BOND = 1;
        private static final int STRIKES = 2;
        private static final int ALL = -1;

        private final int[] kinds = new int[MOST_READ];
        /** The DANCER, of a strike the one that it strikes. */
        private final int[] firsts = new int[MOST_READ];
        /** The PLACE, or the other DANCER. */
        private final int[] seconds = new int[MOST_READ];
        /** Behind how many CROSSINGS, or how much. */
        private final int[] amounts = new int[MOST_READ];
        private final boolean[] affirms = new boolean[MOST_READ];
        private final boolean[] struck = new boolean[MOST_READ];
        int size = 0;
        private int knownFirst = ALL;

        void forget() {
            size = 0;
            knownFirst = ALL;
        }

        int putPlace(int n, int dancer, int place, boolean is) {
            return put(OF_PLACE, dancer, place, n, is);
        }

        int putBond(int one, int other, int much, boolean atLeast) {
            return put(OF_BOND, one, other, much, atLeast);
        }

        int putStrike(int reading) {
            return reading < 0 || reading >= size ? NONE : put(STRIKES, reading, 0, 0, true);
        }

        private int put(int kind, int first, int second, int amount, boolean affirmed) {
            if (!hasRow(size)) {
                return NONE;
            }
            kinds[size] = kind;
            firsts[size] = first;
            seconds[size] = second;
            amounts[size] = amount;
            affirms[size] = affirmed;
            size++;
            return size - 1;
        }

        private boolean hasRow(int i) {
            return i >= 0 && i < kinds.length && i < firsts.length && i < seconds.length
                    && i < amounts.length && i < affirms.length && i < struck.length;
        }

        boolean chooseKnown(int n) {
            if (n < ALL || n > size) {
                return false;
            }
            knownFirst = n;
            return true;
        }

        int knownSize() {
            return knownFirst == ALL ? size : knownFirst;
        }

        /** From the last one on: what is STRUCK strikes nothing. */
        void findStruck() {
            for (int i = 0; i < struck.length; i++) {
                struck[i] = false;
            }
            for (int i = knownSize() - 1; i >= 0; i--) {
                if (hasRow(i) && kinds[i] == STRIKES && !struck[i] && hasRow(firsts[i])) {
                    struck[firsts[i]] = true;
                }
            }
        }

        boolean areAllSo(Plait plait) {
            int many = knownSize();
            for (int i = 0; i < many; i++) {
                if (hasRow(i) && !struck[i] && !isSo(i, plait)) {
                    return false;
                }
            }
            return true;
        }

        private boolean isSo(int i, Plait plait) {
            if (!hasRow(i) || kinds[i] == STRIKES) {
                return true;
            }
            if (!plait.isLeft(firsts[i])) {
                return false;
            }
            if (kinds[i] == OF_PLACE) {
                return (plait.placeBehind(amounts[i], firsts[i]) == seconds[i]) == affirms[i];
            }
            return plait.isLeft(seconds[i])
                    && (plait.bondOf(firsts[i], seconds[i]) >= amounts[i]) == affirms[i];
        }
    }
}
