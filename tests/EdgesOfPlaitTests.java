/** The edges that the document names in promises 6 to 12, 14 to 19 and 22, and in the terms they rest on. */
public final class EdgesOfPlaitTests {
    private static final int[] NO_NUMBERS = {-1, -2, Integer.MIN_VALUE, Integer.MIN_VALUE + 1, Integer.MAX_VALUE};

    public static void main(String[] args) {
        promise6NoSuchDancer();
        promise6NoSuchWhat();
        promise6NotLeft();
        promise6EndsOfAnswers();
        term2BoundIsNotNothing();
        promise7NoSuchOnes();
        promise7OverAndUnder();
        term3HangsBehind();
        promise8NoSuchOnes();
        promise8EndsOfBond();
        promise9NoSuchOnes();
        promise9OfEachLength();
        promise10Home();
        promise11LooseOfFull();
        promise11NotLooseThoughNoTwoAreBound();
        promise12NoImage();
        promise12OtherDancersAreLeft();
        promise12ByEachMove();
        promise12OfFull();
        promise14NoSuchPlace();
        promise14FullPlait();
        promise14Refused();
        promise14VowIsPut();
        promise14VowsAreBounded();
        promise14BothAheadOfIt();
        promise15NoSuchOne();
        promise15AllCrossingsOfThat();
        promise15ToTheLeftOfBoth();
        promise16TwoApart();
        promise16NoSuchOnes();
        promise17NoSuchOnes();
        promise18NoSuchOnes();
        promise18OneApartAllAlike();
        promise19NoSuchOnes();
        promise19NotBeyond48();
        promise19Codes();
        promise22Lean();
        Check.finish("EdgesOfPlaitTests");
    }

    private static MaypoleRegister danced(int dancers, int... codes) {
        MaypoleRegister x = Check.withDancers(dancers);
        Check.cross(x, codes);
        return x;
    }

    /** 48 crossings: these codes again and again. */
    private static MaypoleRegister full(int dancers, int... codes) {
        MaypoleRegister x = Check.withDancers(dancers);
        for (int i = 0; i < 48; i++) {
            Check.cross(x, codes[i % codes.length]);
        }
        return x;
    }

    private static void dueDancer(MaypoleRegister x, int dancer, int... want) {
        for (int what = 0; what < want.length; what++) {
            Check.due("dancer " + dancer + " what " + what, x.dancer(dancer, what), want[what]);
        }
    }

    // IndexOutOfBoundsException: no such DANCER.
    private static void promise6NoSuchDancer() {
        for (int dancers = 0; dancers <= 6; dancers++) {
            MaypoleRegister x = Check.withDancers(dancers);
            for (int dancer = 0; dancer < dancers; dancer++) {
                dueDancer(x, dancer, 1, dancer, 0, 0, 1, 0);
            }
            Check.due("the one behind the last", Check.thrown(x, dancers, 0), 1);
            Check.due("two behind the last", Check.thrown(x, dancers + 1, 5), 1);
            for (int dancer : NO_NUMBERS) {
                Check.due("dancer " + dancer, Check.thrown(x, dancer, 0), 1);
            }
        }
    }

    // NoSuchElementException: no such what.
    private static void promise6NoSuchWhat() {
        MaypoleRegister x = Check.withDancers(2);
        for (int what : NO_NUMBERS) {
            Check.due("what " + what, Check.thrown(x, 1, what), 2);
        }
        Check.due("what 6", Check.thrown(x, 1, 6), 2);
        Check.due("what 5", Check.thrown(x, 1, 5), 0);
        x.letGo(1);
        Check.due("what 6 of one who let go", Check.thrown(x, 1, 6), 2);
        Check.due("what 5 of one who let go", Check.thrown(x, 1, 5), 0);
    }

    // .. what 0 whether LEFT (1, 0), 1 the PLACE in the end (-2: not LEFT) ..
    private static void promise6NotLeft() {
        MaypoleRegister x = danced(3, 0, 2, 0, 0);
        dueDancer(x, 0, 1, 2, 2, 0, 0, 0b110);
        x.letGo(0);
        dueDancer(x, 0, 0, -2, 0, 0, 0, 0);
        dueDancer(x, 1, 1, 0, 1, 1, 0, 0b100);
        dueDancer(x, 2, 1, 1, 1, 1, 0, 0b010);
        x.letGo(2);
        dueDancer(x, 1, 1, 0, 0, 0, 1, 0);
        x.letGo(1);
        for (int dancer = 0; dancer < 3; dancer++) {
            dueDancer(x, dancer, 0, -2, 0, 0, 0, 0);
        }
        x.undo();
        dueDancer(x, 1, 1, 0, 0, 0, 1, 0);
    }

    private static void promise6EndsOfAnswers() {
        MaypoleRegister x = danced(6, 0, 2, 4, 6, 8);
        dueDancer(x, 0, 1, 5, 5, 0, 0, 0b111110);
        dueDancer(x, 5, 1, 4, 0, 1, 0, 0b000001);
        // a passes over each time, from the left and from the right
        x = full(2, 0, 1);
        dueDancer(x, 0, 1, 0, 48, 0, 1, 0);
        dueDancer(x, 1, 1, 1, 0, 48, 1, 0);
        x = full(2, 1, 0);
        dueDancer(x, 0, 1, 0, 0, 48, 1, 0);
        x = full(2, 0);
        dueDancer(x, 0, 1, 0, 24, 24, 0, 0b10);
    }

    // BOUND: it isn't 0. FREE: LEFT, and BOUND to nobody.
    private static void term2BoundIsNotNothing() {
        MaypoleRegister x = danced(3, 1);
        Check.due("a bond below 0 binds", x.dancer(0, 5), 0b010);
        Check.due("bound pairs", x.count(9), 1);
        Check.due("free ones", x.count(10), 1);
        Check.due("not free", x.dancer(1, 4), 0);
        Check.due("free", x.dancer(2, 4), 1);
        Check.cross(x, 0);
        Check.due("over less under is 0", x.bond(0, 1), 0);
        Check.due("bound pairs", x.count(9), 0);
        Check.due("free ones", x.count(10), 3);
        Check.due("free", x.dancer(1, 4), 1);
        x = danced(6, 0, 4, 8, 2, 6, 0, 4, 8, 2, 6, 0, 4, 8, 2, 6);
        Check.due("all pairs of six", x.count(9), 15);
        Check.due("nobody is free", x.count(10), 0);
        x.letGo(2);
        Check.due("pairs of those who are left", x.count(9), 10);
    }

    private static void promise7NoSuchOnes() {
        MaypoleRegister x = full(3, 0, 3);
        Check.due("the last one", x.crossing(47, 0), 1);
        Check.due("48", x.crossing(48, 0), Check.NONE);
        for (int number : NO_NUMBERS) {
            Check.due("crossing " + number, x.crossing(number, 0), Check.NONE);
            Check.due("what " + number, x.crossing(0, number), Check.NONE);
        }
        Check.due("what 5", x.crossing(0, 5), Check.NONE);
        Check.due("what 4", x.crossing(0, 4), 47);
        Check.due("none hangs on the last", x.crossing(47, 4), 0);
        Check.due("one hangs on the one ahead of it", x.crossing(46, 4), 1);
        x = danced(2, 0);
        Check.due("the only one", x.crossing(0, 0), 0);
        Check.due("1 of one", x.crossing(1, 0), Check.NONE);
        x.undo();
        Check.due("0 of none", x.crossing(0, 0), Check.NONE);
    }

    // OVER: who stood at p passes over the other one, UNDER: under the other one.
    private static void promise7OverAndUnder() {
        MaypoleRegister x = danced(6, 8, 9, 0, 1);
        int[][] want = {{4, 1, 4, 5}, {4, 0, 4, 5}, {0, 1, 0, 1}, {0, 0, 0, 1}};
        for (int crossing = 0; crossing < want.length; crossing++) {
            for (int what = 0; what < 4; what++) {
                Check.due("crossing " + crossing + " what " + what, x.crossing(crossing, what), want[crossing][what]);
            }
        }
    }

    // those behind it that are at its PLACE or 1 apart from it, and those behind these that are so of one of these
    private static void term3HangsBehind() {
        dueHang(danced(6, 0, 0), 1, 0);
        dueHang(danced(6, 0, 2), 1, 0);
        dueHang(danced(6, 2, 0), 1, 0);
        dueHang(danced(6, 0, 4), 0, 0);
        dueHang(danced(6, 4, 0), 0, 0);
        dueHang(danced(6, 0, 8), 0, 0);
        dueHang(danced(6, 0, 5, 3, 4), 2, 2, 1, 0);
        dueHang(danced(6, 0, 2, 4, 6, 8), 4, 3, 2, 1, 0);
        dueHang(danced(6, 0, 8, 6, 4, 2), 1, 3, 2, 1, 0);
        dueHang(danced(6, 8, 6, 4, 2, 0), 4, 3, 2, 1, 0);
        dueHang(danced(6, 2, 6, 9, 0, 4), 2, 2, 0, 0, 0);
    }

    private static void dueHang(MaypoleRegister x, int... want) {
        for (int crossing = 0; crossing < want.length; crossing++) {
            Check.due("hang on " + crossing, x.crossing(crossing, 4), want[crossing]);
        }
    }

    // BOND of two DANCERS (0 of one who isn't LEFT); Integer.MIN_VALUE: no such ones, alike.
    private static void promise8NoSuchOnes() {
        MaypoleRegister x = danced(3, 0, 2);
        for (int number : NO_NUMBERS) {
            Check.due("bond of " + number, x.bond(number, 0), Check.NO_BOND);
            Check.due("bond with " + number, x.bond(0, number), Check.NO_BOND);
        }
        for (int dancer = 0; dancer < 3; dancer++) {
            Check.due("alike", x.bond(dancer, dancer), Check.NO_BOND);
            Check.due("with 3", x.bond(dancer, 3), Check.NO_BOND);
            Check.due("of 3", x.bond(3, dancer), Check.NO_BOND);
        }
        Check.due("3 alike", x.bond(3, 3), Check.NO_BOND);
        Check.due("a and c", x.bond(0, 2), 1);
        Check.due("c and a", x.bond(2, 0), 1);
        Check.due("b and c", x.bond(1, 2), 0);
        x.letGo(0);
        Check.due("with one who let go", x.bond(2, 0), 0);
        Check.due("of one who let go", x.bond(0, 2), 0);
        Check.due("of one who let go, alike", x.bond(0, 0), Check.NO_BOND);
        x.letGo(2);
        Check.due("of two who let go", x.bond(0, 2), 0);
        x.undo();
        x.undo();
        Check.due("left again", x.bond(0, 2), 1);
    }

    private static void promise8EndsOfBond() {
        Check.due("48 over", full(2, 0).bond(0, 1), 48);
        Check.due("48 under", full(2, 1).bond(1, 0), -48);
        Check.due("24 of each", full(2, 0, 1).bond(0, 1), 0);
        Check.due("of the last pair of six", full(6, 9).bond(5, 4), -48);
        Check.due("over from the other side is over", danced(2, 0, 0).bond(0, 1), 2);
    }

    // NONE: no such PLACE, there are not so many.
    private static void promise9NoSuchOnes() {
        MaypoleRegister x = full(6, 0, 8);
        for (int number : NO_NUMBERS) {
            Check.due("n " + number, x.at(number, 0), Check.NONE);
            Check.due("place " + number, x.at(0, number), Check.NONE);
        }
        Check.due("n 48", x.at(48, 5), 5);
        Check.due("n 49", x.at(49, 5), Check.NONE);
        Check.due("place 6", x.at(48, 6), Check.NONE);
        Check.due("n 47", x.at(47, 0), 0);
        Check.due("n 47, the last places", x.at(47, 5), 4);
        x.letGo(5);
        Check.due("place 5 of five", x.at(0, 5), Check.NONE);
        Check.due("place 4 of five", x.at(24, 4), 4);
        Check.due("n 25", x.at(25, 4), Check.NONE);
        for (int dancer = 0; dancer < 4; dancer++) {
            x.letGo(dancer);
        }
        Check.due("one alone", x.at(0, 0), 4);
        Check.due("place 1 of one", x.at(0, 1), Check.NONE);
        Check.due("n 1 of none", x.at(1, 0), Check.NONE);
        x.letGo(4);
        Check.due("nobody", x.at(0, 0), Check.NONE);
    }

    private static void promise9OfEachLength() {
        MaypoleRegister x = danced(4, 0, 3, 4, 1);
        int[][] want = {{0, 1, 2, 3}, {1, 0, 2, 3}, {1, 2, 0, 3}, {1, 2, 3, 0}, {2, 1, 3, 0}};
        for (int n = 0; n < want.length; n++) {
            for (int place = 0; place < 4; place++) {
                Check.due("at " + n + " " + place, x.at(n, place), want[n][place]);
            }
        }
        Check.due("5 of 4", x.at(5, 0), Check.NONE);
    }

    // HOME: all stand in the end where they stood at first.
    private static void promise10Home() {
        Check.due("one alone", Check.withDancers(1).isHome(), true);
        Check.due("six, none danced", Check.withDancers(6).isHome(), true);
        Check.due("one crossing at the last place", danced(6, 8).isHome(), false);
        Check.due("back again, bound", danced(6, 8, 8).isHome(), true);
        Check.due("three round", danced(3, 0, 2).isHome(), false);
        Check.due("three round thrice", danced(3, 0, 2, 0, 2, 0, 2).isHome(), true);
        Check.due("48 of two", full(2, 0).isHome(), true);
        Check.due("48 of three, two by two", full(3, 0, 2).isHome(), true);
        MaypoleRegister x = danced(3, 0, 2);
        x.letGo(1);
        Check.due("c stands ahead of a", x.isHome(), false);
        x.letGo(0);
        Check.due("c alone at place 0", x.isHome(), true);
        x.letGo(2);
        Check.due("nobody", x.isHome(), true);
    }

    private static MaypoleRegister thereAndBack(int dancers, int seed) {
        MaypoleRegister x = Check.withDancers(dancers);
        x.feast(seed, 20);
        x.feast(seed + 1, 4);
        for (int i = 23; i >= 0; i--) {
            Check.cross(x, Check.code(x, i) ^ 1);
        }
        return x;
    }

    // LOOSE: ALIKE to the PLAIT without CROSSINGS. 48 at most
    private static void promise11LooseOfFull() {
        for (int dancers = 2; dancers <= 6; dancers++) {
            for (int seed = 0; seed < 5; seed++) {
                MaypoleRegister x = thereAndBack(dancers, seed);
                Check.due("48 there and back", x.isLoose(), true);
                Check.due("home", x.isHome(), true);
                int last = Check.code(x, 47);
                x.undo();
                Check.due("47", x.isLoose(), false);
                Check.cross(x, last ^ 1);
                Check.due("the last one the other way", x.isLoose(), false);
            }
        }
        Check.due("48 of one kind", full(2, 0).isLoose(), false);
        Check.due("24 times there and back", full(6, 8, 9).isLoose(), true);
        // the full turn of three goes past every crossing: eight full turns, four of each kind
        MaypoleRegister x = Check.withDancers(3);
        for (int i = 0; i < 24; i++) {
            Check.cross(x, i % 2 == 0 ? 0 : 2);
        }
        for (int i = 0; i < 24; i++) {
            Check.cross(x, i % 2 == 0 ? 1 : 3);
        }
        Check.due("full turns undone", x.isLoose(), true);
        Check.due("lean doesn't see it", x.lean() > 0, true);
    }

    private static void promise11NotLooseThoughNoTwoAreBound() {
        MaypoleRegister x = danced(3, 0, 3, 0, 3, 0, 3);
        Check.due("nobody is bound", x.count(9), 0);
        Check.due("home", x.isHome(), true);
        Check.due("not loose", x.isLoose(), false);
        x = danced(3, 0, 0, 2, 2, 1, 1, 3, 3);
        Check.due("nobody is bound", x.count(9), 0);
        Check.due("not loose", x.isLoose(), false);
        x = full(3, 0, 3);
        Check.due("48, nobody is bound", x.count(9), 0);
        Check.due("48, home", x.isHome(), true);
        Check.due("48, not loose", x.isLoose(), false);
        x = danced(6, 4, 4, 6, 6, 5, 5, 7, 7);
        Check.due("of the three in the middle", x.isLoose(), false);
        x.letGo(3);
        Check.due("one let go", x.isLoose(), true);
    }

    // -2: there is no IMAGE.
    private static void promise12NoImage() {
        MaypoleRegister x = danced(2, 0);
        Check.due("none", x.alike(), -2);
        x.keep();
        Check.due("one", x.alike(), 1);
        Check.text(x, "slip 101;");
        Check.due("a fault leaves it", x.alike(), 1);
        Check.text(x, "dancer a;");
        Check.due("a text takes it", x.alike(), -2);
    }

    // 0: other DANCERS are LEFT
    private static void promise12OtherDancersAreLeft() {
        MaypoleRegister x = Check.withDancers(3);
        x.letGo(0);
        x.keep();
        Check.due("the same", x.alike(), 1);
        x.undo();
        Check.due("more are left", x.alike(), 0);
        x.letGo(1);
        Check.due("as many, others", x.alike(), 0);
        x.letGo(0);
        Check.due("fewer", x.alike(), 0);
        x.undo();
        x.undo();
        x.letGo(0);
        Check.due("the same again", x.alike(), 1);
        Check.cross(x, 0);
        Check.due("another plait", x.alike(), 0);
        x.keep();
        x.letGo(1);
        x.letGo(2);
        x.keep();
        Check.due("nobody", x.alike(), 1);
    }

    private static void dueAlike(int dancers, int[] codes, int[] others, int want) {
        MaypoleRegister x = danced(dancers, codes);
        x.keep();
        for (int i = 0; i < codes.length; i++) {
            x.undo();
        }
        Check.cross(x, others);
        Check.due("alike", x.alike(), want);
        x.keep();
        x.back();
        Check.due("to itself", x.alike(), 1);
    }

    private static int[] row(int... codes) {
        return codes;
    }

    // two .. at one PLACE, one OVER, one UNDER .. ; whose PLACES are 2 apart at least ..; p, q, p ..
    private static void promise12ByEachMove() {
        dueAlike(2, row(), row(0, 1), 1);
        dueAlike(2, row(0, 1), row(1, 0), 1);
        dueAlike(2, row(0), row(0, 0, 1), 1);
        dueAlike(2, row(0), row(1), 0);
        dueAlike(2, row(0, 0), row(), 0);
        dueAlike(4, row(0, 4), row(4, 0), 1);
        dueAlike(4, row(0, 5), row(5, 0), 1);
        dueAlike(5, row(0, 7), row(7, 0), 1);
        dueAlike(3, row(0, 2), row(2, 0), 0);
        dueAlike(3, row(0, 3), row(3, 0), 0);
        dueAlike(3, row(0, 2, 0), row(2, 0, 2), 1);
        dueAlike(3, row(1, 3, 1), row(3, 1, 3), 1);
        dueAlike(3, row(0, 2, 1), row(3, 0, 2), 1);
        dueAlike(3, row(0, 3, 0), row(2, 1, 2), 0);
        dueAlike(3, row(0, 3, 0), row(3, 0, 3), 0);
        dueAlike(3, row(0, 2, 0), row(1, 3, 1), 0);
        dueAlike(4, row(0, 4, 0), row(4, 0, 4), 0);
        dueAlike(6, row(8, 6, 8), row(6, 8, 6), 1);
    }

    private static void promise12OfFull() {
        for (int dancers = 3; dancers <= 6; dancers++) {
            MaypoleRegister x = thereAndBack(dancers, 7);
            x.keep();
            for (int i = 0; i < 24; i++) {
                x.cancel(23 - i);
            }
            Check.due("none is left", x.count(5), 0);
            Check.due("48 alike to none", x.alike(), 1);
            Check.cross(x, 3);
            Check.due("48 not alike to one", x.alike(), 0);
            x.keep();
            Check.cross(x, 2, 3);
            Check.due("three alike to one", x.alike(), 1);
        }
    }

    // NONE: no such PLACE.
    private static void promise14NoSuchPlace() {
        for (int dancers = 0; dancers <= 6; dancers++) {
            MaypoleRegister x = Check.withDancers(dancers);
            for (int place : NO_NUMBERS) {
                Check.due("place " + place, x.cross(place, true), Check.NONE);
            }
            Check.due("behind the last place", x.cross(Math.max(0, dancers - 1), false), Check.NONE);
            Check.due("none danced", x.count(5) + x.count(6) + x.count(7) + x.count(13), 0);
            for (int place = 0; place < dancers - 1; place++) {
                Check.due("place " + place, x.cross(place, place % 2 == 0), place + 1);
                Check.due("code", Check.code(x, place), 2 * place + place % 2);
            }
        }
        MaypoleRegister x = Check.withDancers(3);
        x.letGo(1);
        Check.due("place 0 of two", x.cross(0, true), 1);
        Check.due("place 1 of two", x.cross(1, true), Check.NONE);
        x.letGo(0);
        Check.due("place 0 of one", x.cross(0, true), Check.NONE);
    }

    // the PLAIT has less than 48
    private static void promise14FullPlait() {
        MaypoleRegister x = full(2, 0, 1, 1);
        Check.due("48", x.count(5), 48);
        Check.due("vows", x.count(6), 48);
        Check.due("a 49th", x.cross(0, true), -2);
        Check.due("a 49th under", x.cross(0, false), -2);
        Check.due("at no place", x.cross(1, true), Check.NONE);
        Check.due("48 still", x.count(5), 48);
        Check.due("vows stay", x.count(6), 48);
        Check.due("not refused in a year", x.count(7), 0);
        Check.due("20 can be undone", x.count(13), 20);
        x.undo();
        Check.due("the 48th again", x.cross(0, false), 48);
        Check.due("a 49th again", x.cross(0, true), -2);
    }

    // -2: it would be REFUSED; E of may isn't 0 (1 without, with an ERROR)
    private static void promise14Refused() {
        int[] wants = {-2, 1, 1, 1, 1, 1, -2, 1, -2};
        String[] mays = {"0", "1", "2", "0-1", "1/0", "9999*9999*9999*9999", "1/2", "year<1", "many"};
        for (int i = 0; i < mays.length; i++) {
            MaypoleRegister x = Check.with("dancer a;dancer b;law may " + mays[i] + ";");
            Check.due("may " + mays[i], x.cross(0, true), wants[i]);
            Check.due("crossings", x.count(5), Math.max(0, wants[i]));
            Check.due("vows", x.count(6), Math.max(0, wants[i]));
            Check.due("can be undone", x.count(13), Math.max(0, wants[i]));
            Check.due("refused so far", x.count(7), 0);
            Check.due("no such place", x.cross(1, true), Check.NONE);
        }
    }

    // E of vow (put to -99 .. 99; 1 without, with an ERROR ..)
    private static void promise14VowIsPut() {
        String[] vows = {"98", "99", "100", "9999", "9999*9999*9999", "0", "1", "0-98", "0-99", "0-100", "0-9999*9999*9999",
            "1/0", "9999*9999*9999*9999"};
        int[] wants = {98, 99, 99, 99, 99, 0, 1, -98, -99, -99, -99, 1, 1};
        for (int i = 0; i < vows.length; i++) {
            MaypoleRegister x = Check.with("dancer a;dancer b;law vow " + vows[i] + ";");
            x.cross(0, true);
            Check.due("vow " + vows[i], x.count(6), wants[i]);
            x.cross(0, true);
            Check.due("vow twice " + vows[i], x.count(6), 2 * wants[i]);
            x.undo();
            Check.due("undone", x.count(6), wants[i]);
        }
        MaypoleRegister x = Check.withDancers(2);
        x.cross(0, true);
        Check.due("without", x.count(6), 1);
    }

    /** Two more crossings, both taken out again: the vows stay. */
    private static void vowTwice(MaypoleRegister x) {
        x.cross(0, true);
        x.cross(0, false);
        x.cancel(0);
    }

    // VOWS are more by .., -9999 .. 9999
    private static void promise14VowsAreBounded() {
        for (int sign = -1; sign <= 1; sign += 2) {
            String vow = sign > 0 ? "99-(year>0)*98-(year>1)*100" : "0-99+(year>0)*98+(year>1)*100";
            MaypoleRegister x = Check.with("dancer a;dancer b;law vow " + vow + ";");
            for (int i = 0; i < 50; i++) {
                vowTwice(x);
            }
            Check.due("100 times 99", x.count(6), sign * 9900);
            x.cross(0, true);
            Check.due("101 times 99", x.count(6), sign * 9999);
            x.cross(0, true);
            Check.due("102 times 99", x.count(6), sign * 9999);
            x.undo();
            Check.due("as it was ahead of it", x.count(6), sign * 9999);
            x.undo();
            Check.due("and ahead of that", x.count(6), sign * 9900);
            x.cross(0, true);
            x.go(1);
            x.cross(0, true);
            Check.due("1 more", x.count(6), sign * 9999);
            x.go(1);
            x.cross(0, true);
            Check.due("99 less", x.count(6), sign * 9900);
            x.go(1);
            Check.due("years leave them", x.count(6), sign * 9900);
        }
        MaypoleRegister x = Check.with("dancer a;dancer b;law vow 98-2*(year>0);");
        for (int i = 0; i < 51; i++) {
            vowTwice(x);
        }
        Check.due("102 times 98", x.count(6), 9996);
        x.cross(0, true);
        Check.due("not beyond 9999", x.count(6), 9999);
        x.undo();
        Check.due("undone", x.count(6), 9996);
    }

    // both E ahead of it
    private static void promise14BothAheadOfIt() {
        MaypoleRegister x = Check.with("dancer a;dancer b;dancer c;law may above<below or bond=1;"
                + "law vow 50*bond+10*many+above;");
        Check.due("b over c", x.cross(1, true), 1);
        Check.due("bond 0, many 0, above 1", x.count(6), 1);
        Check.due("c over b: bond 1 is not 0 now", x.cross(1, true), 2);
        Check.due("bond 1, many 1, above 2", x.count(6), 1 + 62);
        Check.due("b over c again", x.cross(1, true), 3);
        Check.due("bond 2, many 2, above 1: put to 99", x.count(6), 63 + 99);
        Check.due("c over b with bond 3", x.cross(1, true), -2);
    }

    // NONE: no such one, not LEFT.
    private static void promise15NoSuchOne() {
        MaypoleRegister x = danced(3, 0);
        for (int dancer : NO_NUMBERS) {
            Check.due("dancer " + dancer, x.letGo(dancer), Check.NONE);
        }
        Check.due("dancer 3", x.letGo(3), Check.NONE);
        Check.due("dancer 6", x.letGo(6), Check.NONE);
        Check.due("dancer 32", x.letGo(32), Check.NONE);
        Check.due("one can be undone", x.count(13), 1);
        Check.due("2", x.letGo(2), 1);
        Check.due("2 again", x.letGo(2), Check.NONE);
        Check.due("0", x.letGo(0), 0);
        Check.due("1, the last one", x.letGo(1), 0);
        Check.due("1 again", x.letGo(1), Check.NONE);
        Check.due("4 can be undone", x.count(13), 4);
        Check.due("vows stay", x.count(6), 1);
        x.undo();
        Check.due("1 once more", x.letGo(1), 0);
    }

    // all CROSSINGS of that DANCER are gone
    private static void promise15AllCrossingsOfThat() {
        Check.due("all 48", full(2, 0, 1).letGo(1), 0);
        Check.due("all 48 of the other", full(2, 0, 0, 1).letGo(0), 0);
        Check.due("none of 48", full(4, 0).letGo(3), 48);
        Check.due("none of 48, to the right", full(4, 4).letGo(0), 48);
        MaypoleRegister x = full(4, 0, 4);
        Check.due("half of them", x.letGo(0), 24);
        Check.due("place", x.crossing(0, 0), 1);
        Check.due("at first b stands at 0", x.at(0, 0), 1);
        Check.due("the other half", x.letGo(3), 0);
    }

    // the PLACE is 1 less, if that DANCER stood to the left of both
    private static void promise15ToTheLeftOfBoth() {
        MaypoleRegister x = danced(4, 0, 5, 2);
        x.letGo(0);
        Check.duePlait("a stood left of c and d, then at 1", x, 3);
        x = danced(4, 4, 3);
        x.letGo(0);
        Check.duePlait("a stood to the left of both", x, 2, 1);
        x = danced(4, 0, 3);
        x.letGo(3);
        Check.duePlait("d stood to the right", x, 0, 3);
        // a goes right: left of the first, right of the last
        x = danced(3, 2, 0, 2, 1);
        x.letGo(0);
        Check.duePlait("a at first left, then right", x, 0, 1);
        x = danced(6, 8, 0, 9);
        x.letGo(1);
        Check.duePlait("b left of both, twice", x, 6, 7);
    }

    // false: no such ones, they are less than 2 apart
    private static void promise16TwoApart() {
        int[] places = {0, 1, 2, 3, 4};
        for (int one : places) {
            for (int other : places) {
                MaypoleRegister x = danced(6, 2 * one, 2 * other + 1);
                boolean swaps = Math.abs(one - other) >= 2;
                Check.due("swap of " + one + " and " + other, x.swap(0), swaps);
                Check.due("can be undone", x.count(13), swaps ? 3 : 2);
                Check.duePlait("swapped", x, swaps ? row(2 * other + 1, 2 * one) : row(2 * one, 2 * other + 1));
                Check.due("vows stay", x.count(6), 2);
            }
        }
    }

    private static void promise16NoSuchOnes() {
        MaypoleRegister x = danced(4, 0, 4, 0);
        Check.due("the last but one", x.swap(1), true);
        Check.due("the last one", x.swap(2), false);
        Check.due("behind the last one", x.swap(3), false);
        for (int crossing : NO_NUMBERS) {
            Check.due("swap " + crossing, x.swap(crossing), false);
        }
        Check.due("can be undone", x.count(13), 4);
        x = full(4, 0, 4);
        Check.due("46 of 48", x.swap(46), true);
        Check.due("47 of 48", x.swap(47), false);
        Check.due("48 of 48", x.swap(48), false);
        Check.due("49 of 48", x.swap(49), false);
        Check.due("one alone", danced(4, 0).swap(0), false);
        Check.due("none", Check.withDancers(4).swap(0), false);
    }

    // false: no such ones, they don't undo each other (one PLACE, one OVER, one UNDER)
    private static void promise17NoSuchOnes() {
        for (int one = 0; one < 10; one++) {
            for (int other = 0; other < 10; other++) {
                MaypoleRegister x = danced(6, one, other);
                boolean undo = one / 2 == other / 2 && one != other;
                Check.due("cancel " + one + " " + other, x.cancel(0), undo);
                Check.due("crossings", x.count(5), undo ? 0 : 2);
                Check.due("can be undone", x.count(13), undo ? 3 : 2);
                Check.due("vows stay", x.count(6), 2);
            }
        }
        MaypoleRegister x = full(2, 0, 1);
        Check.due("47 of 48", x.cancel(47), false);
        Check.due("48 of 48", x.cancel(48), false);
        for (int crossing : NO_NUMBERS) {
            Check.due("cancel " + crossing, x.cancel(crossing), false);
        }
        Check.due("48 still", x.count(5), 48);
        Check.due("46 of 48", x.cancel(46), true);
        Check.due("46", x.count(5), 46);
        Check.due("45 of 46", x.cancel(45), false);
        Check.due("0 of 46", x.cancel(0), true);
        Check.due("one alone", danced(2, 0).cancel(0), false);
        Check.due("none", Check.withDancers(2).cancel(0), false);
        // with one between them they aren't behind one another
        Check.due("one between", danced(4, 0, 4, 1).cancel(0), false);
    }

    private static void promise18NoSuchOnes() {
        MaypoleRegister x = danced(3, 0, 2, 0, 2);
        Check.due("1 of 4", x.slide(1), true);
        Check.duePlait("slid", x, 0, 0, 2, 0);
        Check.due("2 of 4", x.slide(2), false);
        Check.due("3 of 4", x.slide(3), false);
        Check.due("4 of 4", x.slide(4), false);
        for (int crossing : NO_NUMBERS) {
            Check.due("slide " + crossing, x.slide(crossing), false);
        }
        Check.due("can be undone", x.count(13), 5);
        Check.due("vows stay", x.count(6), 4);
        x = full(3, 0, 2);
        Check.due("45 of 48", x.slide(45), true);
        Check.due("46 of 48", x.slide(46), false);
        Check.due("47 of 48", x.slide(47), false);
        Check.due("48 still", x.count(5), 48);
        Check.due("two", danced(3, 0, 2).slide(0), false);
        Check.due("none", Check.withDancers(3).slide(0), false);
    }

    // they aren't at p, q, p, 1 apart, all OVER or all UNDER
    private static void promise18OneApartAllAlike() {
        for (int codes = 0; codes < 1000; codes++) {
            int first = codes / 100;
            int second = codes / 10 % 10;
            int third = codes % 10;
            boolean slides = first == third && Math.abs(first / 2 - second / 2) == 1 && first % 2 == second % 2;
            MaypoleRegister x = Check.withDancers(6);
            x.cross(first / 2, first % 2 == 0);
            x.cross(second / 2, second % 2 == 0);
            x.cross(third / 2, third % 2 == 0);
            Check.due("slide " + codes, x.slide(0), slides);
            int got = 100 * Check.code(x, 0) + 10 * Check.code(x, 1) + Check.code(x, 2);
            Check.due("slid " + codes, got, slides ? 100 * second + 10 * first + second : codes);
        }
    }

    // NONE, and none is: no such ones, less than two are LEFT
    private static void promise19NoSuchOnes() {
        MaypoleRegister x = Check.withDancers(2);
        for (int number : NO_NUMBERS) {
            Check.due("n " + number, x.feast(0, number), Check.NONE);
            if (number < 0) {
                Check.due("seed " + number, x.feast(number, 1), Check.NONE);
            }
        }
        Check.due("n 0", x.feast(0, 0), Check.NONE);
        Check.due("n 21", x.feast(0, 21), Check.NONE);
        Check.due("none danced", x.count(5) + x.count(13), 0);
        Check.due("n 1", x.feast(0, 1), 1);
        Check.due("n 20", x.feast(2147483647, 20), 21);
        Check.due("vows stay", x.count(6), 0);
        x.letGo(0);
        Check.due("one alone", x.feast(0, 1), Check.NONE);
        x.letGo(1);
        Check.due("nobody", x.feast(0, 1), Check.NONE);
        Check.due("one told", Check.withDancers(1).feast(0, 1), Check.NONE);
    }

    // there would be more than 48
    private static void promise19NotBeyond48() {
        MaypoleRegister x = Check.with("dancer a;dancer b;law may 0;law vow 9;");
        Check.due("20", x.feast(1, 20), 20);
        Check.due("28", x.feast(2, 8), 28);
        Check.due("48", x.feast(3, 20), 48);
        Check.due("49", x.feast(4, 1), Check.NONE);
        Check.due("68", x.feast(4, 20), Check.NONE);
        Check.due("48 still", x.count(5), 48);
        Check.due("3 can be undone", x.count(13), 3);
        Check.due("undone", x.undo(), 2);
        Check.due("28 again", x.count(5), 28);
        Check.due("29", x.feast(5, 1), 29);
        Check.due("49 by 20", x.feast(5, 20), Check.NONE);
        Check.due("29 still", x.count(5), 29);
        Check.due("48 by 19", x.feast(5, 19), 48);
        Check.due("vows stay", x.count(6), 0);
    }

    private static void dueFeast(int dancers, int seed, int... codes) {
        MaypoleRegister x = Check.withDancers(dancers);
        Check.due("feast", x.feast(seed, codes.length), codes.length);
        Check.duePlait("feast of " + dancers + " from " + seed, x, codes);
    }

    // CROSSINGS, each by a number modulo twice as many as there are PLACES to cross at: its CODE
    private static void promise19Codes() {
        dueFeast(2, 0, 0, 0, 0, 1, 0, 1, 1, 1, 0, 0, 1, 0, 1, 0, 1, 1, 0, 1, 0, 1);
        dueFeast(3, 0, 0, 0, 0, 1, 2, 3, 1, 1, 2, 2, 1, 0, 3, 2, 3, 3, 0, 1, 0, 1);
        dueFeast(6, 0, 0, 8, 8, 7, 8, 7, 5, 1, 2, 0, 1, 2, 9, 8, 7, 5, 8, 3, 2, 1);
        dueFeast(2, 2147483647, 1, 1, 0, 0, 1, 0, 0, 1, 0, 0, 1, 1, 1, 0, 1, 0, 1, 0, 1, 1);
        dueFeast(6, 2147483647, 9, 9, 2, 8, 3, 6, 0, 3, 2, 4, 3, 9, 5, 6, 9, 8, 9, 2, 7, 7);
        dueFeast(6, 1, 8);
        // by PLACES of those who are left
        MaypoleRegister x = Check.withDancers(6);
        x.letGo(0);
        x.letGo(5);
        x.letGo(2);
        x.feast(0, 12);
        Check.duePlait("three are left", x, 0, 0, 0, 1, 2, 3, 1, 1, 2, 2, 1, 0);
        // each feast from its own seed
        x = Check.with("dancer a;dancer b;dancer c;seed 77;slip 50;");
        x.feast(0, 3);
        x.feast(0, 3);
        Check.duePlait("twice from 0", x, 0, 0, 0, 0, 0, 0);
    }

    private static void dueLean(int dancers, int want, int... codes) {
        MaypoleRegister x = danced(dancers, codes);
        Check.due("lean", x.lean(), want);
        Check.duePlait("the plait stays", x, codes);
        Check.due("nothing more to undo", x.count(13), Math.min(20, codes.length));
    }

    // .. all between them (if any) 2 apart from it at least, are taken out as long as there are such
    private static void promise22Lean() {
        Check.due("nobody", new MaypoleRegister().lean(), 0);
        dueLean(2, 0);
        dueLean(2, 1, 0);
        dueLean(2, 2, 0, 0);
        dueLean(2, 0, 0, 1);
        dueLean(2, 0, 1, 0);
        dueLean(2, 0, 0, 0, 1, 1);
        dueLean(2, 0, 1, 0, 0, 1);
        dueLean(3, 3, 0, 2, 1);
        dueLean(3, 3, 0, 3, 1);
        dueLean(4, 1, 0, 4, 1);
        dueLean(5, 1, 0, 6, 1);
        dueLean(5, 2, 0, 4, 6, 1);
        dueLean(5, 4, 4, 6, 0, 5);
        dueLean(5, 1, 4, 6, 7, 5, 0);
        dueLean(3, 0, 0, 2, 3, 1);
        dueLean(4, 3, 0, 4, 0);
        // alike to none, yet none is taken out
        dueLean(3, 6, 0, 2, 0, 3, 1, 3);
        Check.due("48 of one kind", full(2, 0).lean(), 48);
        Check.due("48 there and back", full(2, 0, 1).lean(), 0);
        Check.due("48 by turns", full(3, 0, 3).lean(), 48);
        for (int dancers = 2; dancers <= 6; dancers++) {
            Check.due("24 there and back", thereAndBack(dancers, 3).lean(), 0);
        }
    }
}
