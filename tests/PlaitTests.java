/** Promises 6 to 12, 14 to 19, 22 and 36 to 38: the plait, what changes it, what is undone, images. */
public final class PlaitTests {
    public static void main(String[] args) {
        promise6Dancer();
        promise7Crossing();
        promise7Hangs();
        promise8Bond();
        promise9At();
        promise10IsHome();
        promise11IsLoose();
        promise12Alike();
        promise14Cross();
        promise14CrossByLaws();
        promise14Vows();
        promise15LetGo();
        promise16Swap();
        promise17Cancel();
        promise18Slide();
        promise19Feast();
        promise22Lean();
        promise36Undo();
        promise36UndoesAtMostTwenty();
        promise37And38Images();
        promise38BackToNumbers();
        Check.finish("PlaitTests");
    }

    /** 0 over 1, 2 over 0, 2 over 1: they stand 0 1 2 3, then 1 0 2 3, then 1 2 0 3, then 2 1 0 3. */
    private static MaypoleRegister ofThreeCrossings() {
        MaypoleRegister x = Check.withDancers(4);
        Check.cross(x, 0, 3, 1);
        return x;
    }

    private static void dueDancer(MaypoleRegister x, int dancer, int... want) {
        for (int what = 0; what < want.length; what++) {
            Check.due("dancer " + dancer + " what " + what, x.dancer(dancer, what), want[what]);
        }
    }

    private static void promise6Dancer() {
        MaypoleRegister x = ofThreeCrossings();
        dueDancer(x, 0, 1, 2, 1, 1, 0, 0b0110);
        dueDancer(x, 1, 1, 1, 0, 2, 0, 0b0101);
        dueDancer(x, 2, 1, 0, 2, 0, 0, 0b0011);
        dueDancer(x, 3, 1, 3, 0, 0, 1, 0);
        x.cross(0, true);
        // 2 over 1, and over this time: they are not bound now
        dueDancer(x, 1, 1, 0, 0, 3, 0, 0b0001);
        x.letGo(0);
        dueDancer(x, 0, 0, -2, 0, 0, 0, 0);
        dueDancer(x, 1, 1, 0, 0, 2, 1, 0);
        dueDancer(x, 3, 1, 2, 0, 0, 1, 0);
        Check.due("no dancer -1", Check.thrown(x, -1, 0), 1);
        Check.due("no dancer 4", Check.thrown(x, 4, 0), 1);
        Check.due("no dancer, no what", Check.thrown(x, 4, 9), 1);
        Check.due("most", Check.thrown(x, Integer.MAX_VALUE, 0), 1);
        Check.due("no what -1", Check.thrown(x, 1, -1), 2);
        Check.due("no what 6", Check.thrown(x, 1, 6), 2);
        Check.due("one that let go is a dancer", Check.thrown(x, 0, 0), 0);
        Check.due("of one that let go, no what", Check.thrown(x, 0, 6), 2);
        Check.due("no dancers at all", Check.thrown(new MaypoleRegister(), 0, 0), 1);
    }

    private static void dueCrossing(MaypoleRegister x, int crossing, int... want) {
        for (int what = 0; what < want.length; what++) {
            Check.due("crossing " + crossing + " what " + what, x.crossing(crossing, what), want[what]);
        }
    }

    private static void promise7Crossing() {
        MaypoleRegister x = ofThreeCrossings();
        dueCrossing(x, 0, 0, 1, 0, 1, 2);
        dueCrossing(x, 1, 1, 0, 2, 0, 1);
        dueCrossing(x, 2, 0, 0, 2, 1, 0);
        Check.due("no crossing 3", x.crossing(3, 0), Check.NONE);
        Check.due("no crossing -1", x.crossing(-1, 0), Check.NONE);
        Check.due("no what -1", x.crossing(0, -1), Check.NONE);
        Check.due("no what 5", x.crossing(0, 5), Check.NONE);
        x.letGo(0);
        dueCrossing(x, 0, 0, 0, 2, 1, 0);
    }

    private static void promise7Hangs() {
        MaypoleRegister x = Check.withDancers(6);
        Check.cross(x, 0, 5, 8, 3, 6, 1);
        int[] want = {2, 3, 1, 1, 0, 0};
        for (int i = 0; i < want.length; i++) {
            Check.due("hang on " + i, x.crossing(i, 4), want[i]);
        }
        x = Check.withDancers(4);
        Check.cross(x, 4, 0, 2, 4, 0);
        // the one at place 0 stands ahead of the one at place 1 that hangs
        Check.due("hang on 0", x.crossing(0, 4), 3);
        Check.due("hang on 1", x.crossing(1, 4), 3);
        Check.due("hang on 3", x.crossing(3, 4), 0);
    }

    private static void promise8Bond() {
        MaypoleRegister x = ofThreeCrossings();
        Check.due("bond 0 1", x.bond(0, 1), 1);
        Check.due("bond 1 0", x.bond(1, 0), 1);
        Check.due("bond 0 2", x.bond(0, 2), -1);
        Check.due("bond 1 2", x.bond(1, 2), -1);
        Check.due("bond 3 0", x.bond(3, 0), 0);
        Check.due("alike", x.bond(2, 2), Check.NO_BOND);
        Check.due("no such one", x.bond(0, 4), Check.NO_BOND);
        Check.due("no such other", x.bond(4, 0), Check.NO_BOND);
        Check.due("below 0", x.bond(-1, 0), Check.NO_BOND);
        Check.due("below 0", x.bond(0, -1), Check.NO_BOND);
        x.letGo(2);
        Check.due("of one who isn't left", x.bond(0, 2), 0);
        Check.due("of the others", x.bond(0, 1), 1);
        Check.due("one who isn't left, alike", x.bond(2, 2), Check.NO_BOND);
        x = Check.withDancers(2);
        for (int i = 0; i < 48; i++) {
            x.cross(0, false);
        }
        Check.due("48 under", x.bond(0, 1), -48);
    }

    private static void promise9At() {
        MaypoleRegister x = ofThreeCrossings();
        int[][] want = {{0, 1, 2, 3}, {1, 0, 2, 3}, {1, 2, 0, 3}, {2, 1, 0, 3}};
        for (int n = 0; n < 4; n++) {
            for (int place = 0; place < 4; place++) {
                Check.due("at " + n + " " + place, x.at(n, place), want[n][place]);
            }
        }
        Check.due("not so many", x.at(4, 0), Check.NONE);
        Check.due("n below 0", x.at(-1, 0), Check.NONE);
        Check.due("no place 4", x.at(0, 4), Check.NONE);
        Check.due("no place -1", x.at(0, -1), Check.NONE);
        x.letGo(2);
        Check.due("no place 3 now", x.at(0, 3), Check.NONE);
        Check.due("at 0 2 now", x.at(0, 2), 3);
        Check.due("at 1 0 now", x.at(1, 0), 1);
    }

    private static void promise10IsHome() {
        MaypoleRegister x = Check.withDancers(3);
        Check.due("without crossings", x.isHome(), true);
        x.cross(0, true);
        Check.due("after one", x.isHome(), false);
        x.cross(0, true);
        Check.due("after two", x.isHome(), true);
        x.cross(0, true);
        x.cross(1, true);
        Check.due("after four", x.isHome(), false);
        x.letGo(0);
        Check.due("the others are home", x.isHome(), true);
        Check.due("nobody there", new MaypoleRegister().isHome(), true);
    }

    private static void dueLoose(int dancers, boolean want, int... codes) {
        MaypoleRegister x = Check.withDancers(dancers);
        Check.cross(x, codes);
        Check.due("loose", x.isLoose(), want);
        Check.due("untouched", x.count(5), codes.length);
    }

    private static void promise11IsLoose() {
        dueLoose(0, true);
        dueLoose(3, true);
        dueLoose(2, false, 0);
        dueLoose(2, true, 0, 1);
        dueLoose(2, true, 1, 0);
        dueLoose(2, false, 0, 0);
        dueLoose(2, true, 0, 0, 1, 1);
        dueLoose(3, true, 0, 2, 0, 3, 1, 3);
        dueLoose(3, true, 1, 3, 1, 2, 0, 2);
        dueLoose(3, true, 0, 2, 1, 3, 1, 2);
        dueLoose(3, false, 0, 2, 1, 3);
        dueLoose(3, false, 0, 3, 0, 3, 0, 3);
        dueLoose(3, false, 0, 2, 0, 2, 0, 2);
        dueLoose(4, true, 0, 4, 1, 5);
        dueLoose(4, false, 0, 4, 1, 4);
        dueLoose(6, true, 8, 6, 8, 0, 7, 9, 7, 1);
        // the full turn of three goes past every other crossing
        dueLoose(3, true, 0, 2, 0, 2, 0, 2, 2, 3, 1, 3, 1, 3, 1, 3);
        dueLoose(3, true, 0, 2, 0, 2, 0, 2, 2, 1, 3, 1, 3, 1, 3, 3);
        dueLoose(3, false, 0, 2, 0, 2, 0, 2, 2, 1, 3, 1, 3, 1, 3, 2);
    }

    private static void promise12Alike() {
        MaypoleRegister x = Check.withDancers(3);
        Check.due("no image", x.alike(), -2);
        Check.cross(x, 0, 2, 0);
        x.keep();
        Check.due("the same", x.alike(), 1);
        x.slide(0);
        Check.due("slid", x.alike(), 1);
        Check.cross(x, 0);
        Check.due("one more", x.alike(), 0);
        Check.cross(x, 1);
        Check.due("undone by another one", x.alike(), 1);
        x.letGo(1);
        Check.due("other dancers are left", x.alike(), 0);
        x = Check.withDancers(3);
        x.keep();
        x.letGo(2);
        Check.due("other dancers, no crossings", x.alike(), 0);
        x.keep();
        Check.due("image in place of one ahead", x.alike(), 1);
        Check.cross(x, 0, 0);
        Check.due("not alike", x.alike(), 0);
    }

    private static void promise14Cross() {
        MaypoleRegister x = Check.withDancers(3);
        Check.due("no place 2", x.cross(2, true), Check.NONE);
        Check.due("no place -1", x.cross(-1, true), Check.NONE);
        Check.due("most", x.cross(Integer.MAX_VALUE, true), Check.NONE);
        Check.due("least", x.cross(Integer.MIN_VALUE, true), Check.NONE);
        Check.due("nothing to undo", x.count(13), 0);
        for (int i = 1; i <= 48; i++) {
            Check.due("cross", x.cross(i % 2, i % 3 == 0), i);
        }
        Check.due("vows", x.count(6), 48);
        Check.due("a 49th", x.cross(0, true), -2);
        Check.due("no place of a 49th", x.cross(2, true), Check.NONE);
        Check.due("crossings", x.count(5), 48);
        Check.due("vows stay", x.count(6), 48);
        Check.due("refused by call isn't counted", x.count(7), 0);
        Check.due("can be undone", x.count(13), 20);
        x = Check.withDancers(1);
        Check.due("alone", x.cross(0, true), Check.NONE);
    }

    private static void promise14CrossByLaws() {
        MaypoleRegister x = Check.with("dancer a;dancer b;dancer c;law may above<below;law vow bond*10+many;");
        Check.due("a over b", x.cross(0, true), 1);
        Check.due("vow of none ahead", x.count(6), 0);
        Check.due("b over a", x.cross(0, true), -2);
        Check.due("refused", x.count(5), 1);
        Check.due("a over b", x.cross(0, false), 2);
        Check.due("vow 10 and 1", x.count(6), 11);
        Check.due("can be undone", x.count(13), 2);
        x = Check.with("dancer a;dancer b;law may 0-5;law vow 1/0;");
        Check.due("what isn't 0 allows", x.cross(0, true), 1);
        Check.due("vow with an error", x.count(6), 1);
        x = Check.with("dancer a;dancer b;law may 1/many;");
        Check.due("may with an error", x.cross(0, true), 1);
        Check.due("may 1", x.cross(0, true), 2);
        Check.due("may 0", x.cross(0, true), -2);
        x = Check.with("dancer a;dancer b;law may year>3;");
        Check.due("year 0", x.cross(0, true), -2);
        x.go(4);
        Check.due("year 4", x.cross(0, true), 1);
    }

    private static void dueVows(String vow, int first, int most) {
        MaypoleRegister x = Check.with("dancer a;dancer b;law vow " + vow + ";");
        x.cross(0, true);
        Check.due("vows of " + vow, x.count(6), first);
        for (int i = 0; i < 60; i++) {
            x.cross(0, false);
            x.cross(0, true);
            x.cancel(0);
        }
        Check.due("most vows of " + vow, x.count(6), most);
    }

    private static void promise14Vows() {
        dueVows("500", 99, 9999);
        dueVows("0-500", -99, -9999);
        dueVows("99", 99, 9999);
        dueVows("98", 98, 9999);
        dueVows("0-98", -98, -9999);
        dueVows("80", 80, 80 * 121);
        dueVows("0", 0, 0);
    }

    private static void promise15LetGo() {
        MaypoleRegister x = Check.withDancers(4);
        Check.cross(x, 0, 4, 2);
        Check.due("let go", x.letGo(1), 2);
        Check.duePlait("1 stood to the left", x, 2, 0);
        Check.due("who passes over", x.crossing(0, 2), 2);
        Check.due("vows stay", x.count(6), 3);
        Check.due("left", x.count(1), 3);
        Check.due("again", x.letGo(1), Check.NONE);
        Check.due("no such one", x.letGo(4), Check.NONE);
        Check.due("below 0", x.letGo(-1), Check.NONE);
        Check.due("most", x.letGo(Integer.MAX_VALUE), Check.NONE);
        Check.due("32 more", x.letGo(34), Check.NONE);
        Check.due("can be undone", x.count(13), 4);
        Check.due("let go", x.letGo(0), 1);
        Check.duePlait("two are left", x, 0);
        Check.due("no place 1", x.cross(1, true), Check.NONE);
        Check.due("let go", x.letGo(3), 0);
        Check.due("let go", x.letGo(2), 0);
        Check.due("nobody", x.count(1), 0);
        x = Check.withDancers(4);
        Check.cross(x, 1, 5, 3);
        Check.due("let go", x.letGo(3), 1);
        Check.duePlait("3 stood to the right", x, 1);
        // 1 moves from the right of 0 to the left of all: 0 over 2 falls from place 1 to 0
        x = Check.withDancers(3);
        Check.cross(x, 0, 2, 0);
        Check.due("let go", x.letGo(1), 1);
        Check.duePlait("1 stood to the left", x, 0);
    }

    private static void promise16Swap() {
        MaypoleRegister x = Check.withDancers(5);
        Check.cross(x, 0, 5, 2, 7);
        Check.due("2 apart", x.swap(0), true);
        Check.duePlait("swapped", x, 5, 0, 2, 7);
        Check.due("1 apart", x.swap(1), false);
        Check.due("2 apart", x.swap(2), true);
        Check.duePlait("swapped", x, 5, 0, 7, 2);
        Check.due("3 apart", x.swap(1), true);
        Check.duePlait("swapped", x, 5, 7, 0, 2);
        Check.due("1 apart", x.swap(0), false);
        Check.due("the last one", x.swap(3), false);
        Check.due("no such one", x.swap(4), false);
        Check.due("below 0", x.swap(-1), false);
        Check.due("most", x.swap(Integer.MAX_VALUE), false);
        Check.due("can be undone", x.count(13), 7);
        Check.due("vows stay", x.count(6), 4);
        x = Check.withDancers(2);
        Check.cross(x, 0, 1);
        Check.due("at one place", x.swap(0), false);
    }

    private static void promise17Cancel() {
        MaypoleRegister x = Check.withDancers(4);
        Check.cross(x, 0, 2, 3, 1, 4, 4, 0, 3);
        Check.due("1 apart", x.cancel(0), false);
        Check.due("over, under", x.cancel(1), true);
        Check.duePlait("taken out", x, 0, 1, 4, 4, 0, 3);
        Check.due("both over", x.cancel(2), false);
        Check.due("over and under, 1 apart", x.cancel(4), false);
        Check.due("the last one", x.cancel(5), false);
        Check.due("no such one", x.cancel(6), false);
        Check.due("below 0", x.cancel(-1), false);
        Check.due("most", x.cancel(Integer.MAX_VALUE), false);
        Check.due("over, under", x.cancel(0), true);
        Check.duePlait("taken out", x, 4, 4, 0, 3);
        Check.due("can be undone", x.count(13), 10);
        Check.due("vows stay", x.count(6), 8);
        x = Check.withDancers(2);
        Check.cross(x, 1, 0);
        Check.due("under, over", x.cancel(0), true);
        Check.due("none left", x.count(5), 0);
    }

    private static void promise18Slide() {
        MaypoleRegister x = Check.withDancers(4);
        Check.cross(x, 0, 2, 0, 4, 2, 5, 3, 5, 0);
        Check.due("p, q, p", x.slide(0), true);
        Check.duePlait("slid", x, 2, 0, 2, 4, 2, 5, 3, 5, 0);
        Check.due("p, q, p from above", x.slide(2), true);
        Check.duePlait("slid", x, 2, 0, 4, 2, 4, 5, 3, 5, 0);
        Check.due("all under", x.slide(5), true);
        Check.duePlait("slid", x, 2, 0, 4, 2, 4, 3, 5, 3, 0);
        Check.due("p, q, r", x.slide(1), false);
        Check.due("one is under", x.slide(3), false);
        Check.due("the last but one", x.slide(7), false);
        Check.due("the last one", x.slide(8), false);
        Check.due("no such one", x.slide(9), false);
        Check.due("below 0", x.slide(-1), false);
        Check.due("most", x.slide(Integer.MAX_VALUE), false);
        Check.due("can be undone", x.count(13), 12);
        int[][] none = {{0, 2, 1}, {0, 3, 0}, {1, 2, 0}, {0, 0, 0}, {0, 4, 0}, {1, 2, 1}, {0, 3, 1}};
        for (int[] codes : none) {
            x = Check.withDancers(4);
            Check.cross(x, codes);
            Check.due("no slide", x.slide(0), false);
            Check.duePlait("stays", x, codes);
        }
    }

    private static void dueFeast(int dancers, int seed, int n) {
        MaypoleRegister x = Check.withDancers(dancers);
        Check.cross(x, 0);
        Check.due("feast", x.feast(seed, n), n + 1);
        long last = seed;
        for (int i = 1; i <= n; i++) {
            last = (last * 1103515245L + 12345L) % 2147483648L;
            Check.due("code of the feast " + i, Check.code(x, i), last / 65536 % (2 * (dancers - 1)));
        }
        Check.due("vows stay", x.count(6), 1);
        Check.due("can be undone", x.count(13), 2);
    }

    private static void promise19Feast() {
        dueFeast(2, 0, 20);
        dueFeast(3, 12345, 20);
        dueFeast(6, 2147483647, 20);
        dueFeast(5, 1, 1);
        MaypoleRegister x = Check.with("dancer a;dancer b;dancer c;law may 0;law vow 5;seed 3;");
        Check.due("n 0", x.feast(0, 0), Check.NONE);
        Check.due("n 21", x.feast(0, 21), Check.NONE);
        Check.due("n below 0", x.feast(0, -1), Check.NONE);
        Check.due("seed below 0", x.feast(-1, 1), Check.NONE);
        Check.due("whatever the laws", x.feast(7, 20), 20);
        Check.due("again", x.feast(7, 20), 40);
        Check.due("49", x.feast(7, 9), Check.NONE);
        Check.due("none is danced", x.count(5), 40);
        Check.due("can be undone", x.count(13), 2);
        Check.due("48", x.feast(7, 8), 48);
        Check.due("the same again", Check.code(x, 44), Check.code(x, 4));
        x.letGo(0);
        x.letGo(1);
        Check.due("alone", x.feast(0, 1), Check.NONE);
    }

    private static void dueLean(int dancers, int want, int... codes) {
        MaypoleRegister x = Check.withDancers(dancers);
        Check.cross(x, codes);
        Check.due("lean", x.lean(), want);
        Check.duePlait("stays", x, codes);
    }

    private static void promise22Lean() {
        dueLean(0, 0);
        dueLean(2, 1, 0);
        dueLean(2, 0, 0, 1);
        dueLean(2, 2, 0, 0);
        dueLean(2, 1, 0, 1, 0);
        dueLean(3, 3, 0, 2, 1);
        dueLean(3, 0, 0, 2, 3, 1);
        dueLean(3, 6, 0, 2, 0, 3, 1, 3);
        dueLean(4, 1, 0, 4, 1);
        dueLean(4, 0, 0, 4, 1, 5);
        dueLean(4, 0, 0, 4, 5, 1);
        dueLean(4, 4, 0, 2, 4, 1);
        dueLean(6, 2, 0, 4, 8, 1, 9, 4);
        dueLean(6, 0, 4, 0, 8, 2, 6, 7, 3, 9, 1, 5);
        dueLean(6, 6, 4, 0, 8, 2, 6, 3, 9, 1, 7, 5);
    }

    private static void promise36Undo() {
        MaypoleRegister x = Check.with("dancer a;dancer b;dancer c;dancer d;law vow 7;");
        Check.due("nothing", x.undo(), Check.NONE);
        Check.cross(x, 0, 2, 0, 4, 5);
        x.slide(0);
        x.cancel(3);
        x.letGo(3);
        x.feast(5, 6);
        Check.due("9 can be undone", x.count(13), 9);
        Check.due("feast undone", x.undo(), 8);
        Check.duePlait("without the feast", x, 2, 0, 2);
        Check.due("letting go undone", x.undo(), 7);
        Check.due("left again", x.count(1), 4);
        Check.due("cancel undone", x.undo(), 6);
        Check.duePlait("without cancel", x, 2, 0, 2, 4, 5);
        Check.due("slide undone", x.undo(), 5);
        Check.duePlait("without slide", x, 0, 2, 0, 4, 5);
        Check.due("vows", x.count(6), 35);
        Check.due("crossing undone", x.undo(), 4);
        Check.due("vows undone", x.count(6), 28);
        Check.due("what is refused isn't there", x.cross(9, true), Check.NONE);
        Check.due("four", x.count(13), 4);
        Check.due("no year", x.go(0), 0);
        Check.due("still four", x.count(13), 4);
        Check.due("refused years", x.go(100), Check.NONE);
        Check.due("still four", x.count(13), 4);
        x.swap(2);
        x.go(1);
        Check.due("a year went by", x.count(13), 0);
        Check.due("nothing", x.undo(), Check.NONE);
        Check.due("crossings stay", x.count(5), 4);
        Check.cross(x, 0);
        Check.due("undone in the new year", x.undo(), 0);
        Check.duePlait("the swap stays", x, 0, 2, 4, 0);
    }

    private static void promise36UndoesAtMostTwenty() {
        MaypoleRegister x = Check.withDancers(3);
        for (int i = 1; i <= 33; i++) {
            x.cross(i % 2, i % 3 == 0);
            Check.due("can be undone", x.count(13), Math.min(i, 20));
        }
        for (int i = 19; i >= 0; i--) {
            Check.due("undo", x.undo(), i);
            Check.due("crossings", x.count(5), 13 + i);
            Check.due("vows", x.count(6), 13 + i);
        }
        Check.due("no more", x.undo(), Check.NONE);
        Check.due("crossings", x.count(5), 13);
        for (int i = 0; i < 13; i++) {
            Check.due("place", x.crossing(i, 0), (i + 1) % 2);
            Check.due("over", x.crossing(i, 1), (i + 1) % 3 == 0 ? 1 : 0);
        }
        Check.cross(x, 0, 1);
        Check.due("again", x.undo(), 1);
    }

    private static void promise37And38Images() {
        MaypoleRegister x = Check.with("dancer a;dancer b;dancer c;over 0 0;over 0 4;under 1 1;over 2 0;slip 0;");
        Check.due("no image", x.back(), Check.NONE);
        Check.due("keep", x.keep(), 0);
        x.go(2);
        Check.cross(x, 0);
        x.letGo(2);
        x.keep();
        x.read(0, 0, 0, true);
        x.read(0, 1, 0, true);
        x.known(1);
        Check.due("year", x.go(3), 5);
        Check.cross(x, 0, 0);
        Check.due("back", x.back(), 2);
        int[] want = {3, 2, 4, 0, 2, 1, 3, 1, 0, 1, 0, 2, 1, 0};
        for (int what = 0; what < want.length; what++) {
            Check.due("image's count " + what, x.count(what), want[what]);
        }
        Check.duePlait("image's plait", x, 0);
        Check.due("nothing to undo", x.undo(), Check.NONE);
        Check.cross(x, 0);
        Check.due("back again", x.back(), 2);
        Check.due("image's crossings", x.count(5), 1);
        Check.feed(x, "slip 101;");
        Check.due("fault", x.text(9), Check.NONE);
        Check.feed(x, "slip 1;");
        Check.due("back", x.back(), 2);
        Check.due("the fault stays", x.fault(0), 2);
        Check.due("the tape stays", x.feed(0, 0, 0, 0, 0), 40);
    }

    private static void promise38BackToNumbers() {
        StringBuilder text = new StringBuilder("dancer a;dancer b;slip 50;seed 77;");
        for (int i = 0; i < 24; i++) {
            text.append(i % 2 == 0 ? "over " : "under ").append(i).append(" 0;");
        }
        MaypoleRegister x = Check.with(text.toString());
        x.go(3);
        x.keep();
        x.go(20);
        int crossings = x.count(5);
        int slipped = x.count(8);
        int bound = x.bond(0, 1);
        for (int i = 0; i < 3; i++) {
            x.back();
            x.go(20);
            Check.due("the same crossings", x.count(5), crossings);
            Check.due("the same slips", x.count(8), slipped);
            Check.due("the same bond", x.bond(0, 1), bound);
        }
    }
}
