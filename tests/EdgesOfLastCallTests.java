/** An object is used for at most 512 calls after it has been made: what holds, holds up to the 512th. */
public final class EdgesOfLastCallTests {
    private static final int LAST = 512;
    /** 12 calls of feed and one of text. */
    private static final String TEXT = Check.dancers(6) + "over 0 0;under 1 1;over 2 2;under 2 3;over 3 4;over 99 0;slip 40;"
            + "seed 58;law may many<>47;law vow above+below;law loosen 0-1/year*0;" + Check.times(" ", 53);

    /** One call of the face, its answer as a long (a boolean counts 1 or 0). */
    private interface Call {
        long ask(MaypoleRegister x);
    }

    public static void main(String[] args) {
        eachAsksTheSameToTheLast();
        eachIsTheLast();
        feedsToTheLast();
        textsToTheLast();
        yearsToTheLast();
        crossingsToTheLast();
        changesToTheLast();
        imagesToTheLast();
        readingsToTheLast();
        refusedOnesToTheLast();
        faultsToTheLast();
        Check.finish("EdgesOfLastCallTests");
    }

    private static int bit(boolean is) {
        return is ? 1 : 0;
    }

    /** Twenty-one calls behind the making: 13 of the text, and these eight. */
    private static MaypoleRegister begun() {
        MaypoleRegister x = new MaypoleRegister();
        Check.feed(x, TEXT);
        Check.due("text of " + TEXT.length(), x.text(TEXT.length()), 17);
        Check.due("cross", x.cross(0, true), 1);
        Check.due("cross", x.cross(1, false), 2);
        Check.due("cross", x.cross(0, true), 3);
        Check.due("keep", x.keep(), 0);
        Check.due("cross", x.cross(0, false), 4);
        Check.due("read", x.read(3, 1, 0, true), 0);
        Check.due("readBond", x.readBond(0, 1, 1, true), 1);
        Check.due("strike", x.strike(0), 2);
        return x;
    }

    private static void dueToTheLast(String call, Call asked, long want) {
        MaypoleRegister x = begun();
        for (int i = 22; i <= LAST; i++) {
            Check.due(call + " as call " + i, asked.ask(x), want);
        }
    }

    // a over b, c under a, b over c, then that one undone: they stand b, c, a, d, e, f
    private static void eachAsksTheSameToTheLast() {
        dueToTheLast("text(1)", x -> x.text(1), -2);
        dueToTheLast("fault(1)", x -> x.fault(1), Check.NONE);
        dueToTheLast("named(f)", x -> x.named(6 << 25), 5);
        dueToTheLast("dancer(0, 1)", x -> x.dancer(0, 1), 2);
        dueToTheLast("dancer(6, 1)", x -> Check.thrown(x, 6, 1), 1);
        dueToTheLast("dancer(5, 6)", x -> Check.thrown(x, 5, 6), 2);
        dueToTheLast("crossing(3, 2)", x -> x.crossing(3, 2), 1);
        dueToTheLast("crossing(0, 4)", x -> x.crossing(0, 4), 3);
        dueToTheLast("bond(2, 0)", x -> x.bond(2, 0), -1);
        dueToTheLast("at(3, 0)", x -> x.at(3, 0), 2);
        dueToTheLast("isHome()", x -> bit(x.isHome()), 0);
        dueToTheLast("isLoose()", x -> bit(x.isLoose()), 0);
        dueToTheLast("alike()", x -> x.alike(), 0);
        dueToTheLast("law(1, 9)", x -> x.law(1, 9), 9);
        dueToTheLast("law(2, 0)", x -> x.law(2, 0), Check.NO_LAW);
        dueToTheLast("cross(5, true)", x -> x.cross(5, true), Check.NONE);
        dueToTheLast("letGo(6)", x -> x.letGo(6), Check.NONE);
        dueToTheLast("swap(0)", x -> bit(x.swap(0)), 0);
        dueToTheLast("cancel(0)", x -> bit(x.cancel(0)), 0);
        dueToTheLast("slide(0)", x -> bit(x.slide(0)), 0);
        dueToTheLast("feast(0, 21)", x -> x.feast(0, 21), Check.NONE);
        dueToTheLast("go(0)", x -> x.go(0), 0);
        dueToTheLast("ahead(99, 0)", x -> x.ahead(99, 0), 9);
        dueToTheLast("ahead(3, 2)", x -> x.ahead(3, 2), 0);
        dueToTheLast("lean()", x -> x.lean(), 2);
        dueToTheLast("danceBack(0)", x -> x.danceBack(0), 2);
        dueToTheLast("danceBack(2)", x -> x.danceBack(2), 1);
        dueToTheLast("make(16, 0)", x -> x.make(16, 0), -2);
        dueToTheLast("make(2, 4)", x -> x.make(2, 4), 1);
        dueToTheLast("looseRows(4)", x -> x.looseRows(4), 238);
        dueToTheLast("tied(0, 1, 2)", x -> x.tied(0, 1, 2), 0);
        dueToTheLast("freed(0)", x -> x.freed(0), 0b111110);
        dueToTheLast("holds(6, 0)", x -> x.holds(6, 0), 729);
        dueToTheLast("known(3)", x -> bit(x.known(3)), 1);
        dueToTheLast("known(4)", x -> bit(x.known(4)), 0);
        dueToTheLast("fits(0)", x -> x.fits(0), 0b0001);
        dueToTheLast("chance(0, 2)", x -> x.chance(0, 2), 1);
        dueToTheLast("tried(1, 0, 99)", x -> x.tried(1, 0, 99), 9);
        dueToTheLast("tried(2, 0, 0)", x -> x.tried(2, 0, 0), 2);
        dueToTheLast("keep()", x -> x.keep(), 0);
        dueToTheLast("count(13)", x -> x.count(13), 4);
    }

    private static void dueAsTheLast(String call, Call asked, long want) {
        MaypoleRegister x = begun();
        for (int i = 22; i < LAST; i++) {
            x.isLoose();
        }
        Check.due(call + " as call 512", asked.ask(x), want);
    }

    private static void eachIsTheLast() {
        dueAsTheLast("feed", x -> x.feed(0, 0, 0, 0, 0), 20);
        dueAsTheLast("text(0)", x -> x.text(0), 0);
        dueAsTheLast("cross(4, true)", x -> x.cross(4, true), 5);
        dueAsTheLast("letGo(0)", x -> x.letGo(0), 2);
        dueAsTheLast("cancel(2)", x -> bit(x.cancel(2)), 1);
        dueAsTheLast("feast(0, 20)", x -> x.feast(0, 20), 24);
        dueAsTheLast("go(99)", x -> x.go(99), 99);
        dueAsTheLast("read", x -> x.read(48, 5, 5, true), 3);
        dueAsTheLast("readBond", x -> x.readBond(5, 4, 48, true), 3);
        dueAsTheLast("strike(2)", x -> x.strike(2), 3);
        dueAsTheLast("known(0)", x -> bit(x.known(0)), 1);
        dueAsTheLast("undo()", x -> x.undo(), 3);
        dueAsTheLast("back()", x -> x.back(), 0);
        dueAsTheLast("fits(0)", x -> x.fits(0), 0b0001);
    }

    private static void feedsToTheLast() {
        MaypoleRegister x = new MaypoleRegister();
        for (int i = 1; i <= LAST; i++) {
            Check.due("feed " + i, x.feed(0x20202020, 0x20202020, 0x20202020, 0x20202020, 0x20202020), i <= 35 ? 20 * i : Check.NONE);
        }
        x = new MaypoleRegister();
        for (int i = 1; i < LAST; i++) {
            x.feed(0x20202020, 0x20202020, 0x20202020, 0x20202020, 0x20202020);
        }
        Check.due("text of 700 as call 512", x.text(700), 0);
    }

    // "dancer a;dancer b;  "
    private static int feedTwo(MaypoleRegister x) {
        return x.feed(0x64616e63, 0x65722061, 0x3b64616e, 0x63657220, 0x623b2020);
    }

    private static void textsToTheLast() {
        MaypoleRegister x = new MaypoleRegister();
        for (int i = 1; i <= LAST / 4; i++) {
            Check.due("feed", feedTwo(x), 20);
            Check.due("text", x.text(i % 2 == 0 ? 20 : 9), i % 2 == 0 ? 2 : 1);
            Check.due("cross", x.cross(0, true), i % 2 == 0 ? 1 : Check.NONE);
            Check.due("count", x.count(0), i % 2 == 0 ? 2 : 1);
        }
    }

    private static void yearsToTheLast() {
        MaypoleRegister x = begun();
        for (int i = 22; i < LAST; i++) {
            Check.due("go", x.go(20), 20 * (i - 21));
        }
        Check.due("9800", x.go(0), 9800);
        x = begun();
        for (int i = 22; i < LAST; i++) {
            Check.due("go", x.go(1), i - 21);
        }
        Check.due("crossings as call 512", x.count(5), 10);
        x = new MaypoleRegister();
        for (int i = 1; i <= LAST; i++) {
            Check.due("go 99", x.go(99), i <= 100 ? 99 * i : Check.NONE);
        }
    }

    private static void crossingsToTheLast() {
        MaypoleRegister x = new MaypoleRegister();
        feedTwo(x);
        x.text(20);
        for (int i = 3; i <= LAST; i++) {
            Check.due("cross", x.cross(0, i % 2 == 0), i <= 50 ? i - 2 : -2);
        }
        x = new MaypoleRegister();
        feedTwo(x);
        x.text(20);
        for (int i = 3; i + 2 < LAST; i += 3) {
            Check.due("over", x.cross(0, true), 1);
            Check.due("under", x.cross(0, false), 2);
            Check.due("cancel", x.cancel(0), true);
        }
        Check.due("vows", x.count(6), 338);
        Check.due("can be undone", x.count(13), 20);
        Check.due("undone", x.undo(), 19);
    }

    /** Twice the same call, or one and then undo, again and again. */
    private static void dueByTurns(String call, Call first, long firstWant, Call second, long secondWant) {
        MaypoleRegister x = begun();
        Check.due("one more", x.lean(), 2);
        for (int i = 23; i < LAST; i += 2) {
            Check.due(call + " as call " + i, first.ask(x), firstWant);
            Check.due("then as call " + (i + 1), second.ask(x), secondWant);
        }
    }

    private static void changesToTheLast() {
        dueByTurns("cross", x -> x.cross(4, false), 5, x -> x.undo(), 4);
        dueByTurns("letGo", x -> x.letGo(0), 2, x -> x.undo(), 4);
        dueByTurns("cancel", x -> bit(x.cancel(2)), 1, x -> x.undo(), 4);
        dueByTurns("feast", x -> x.feast(2147483647, 20), 24, x -> x.undo(), 4);
        dueByTurns("back", x -> x.back(), 0, x -> x.cross(4, true), 4);
        dueByTurns("known", x -> bit(x.known(0)), 1, x -> bit(x.known(-1)), 1);
        MaypoleRegister x = Check.withDancers(6);
        Check.cross(x, 0, 8, 4, 6, 4);
        // 4 calls of the text, 5 of cross, 5 of count between them
        for (int i = 15; i < LAST; i += 2) {
            Check.due("swap as call " + i, x.swap(0), true);
            Check.due("slide as call " + (i + 1), x.slide(2), true);
        }
    }

    private static void imagesToTheLast() {
        MaypoleRegister x = begun();
        int[] crossings = {2, 1, 1, 4, 4, 4};
        for (int round = 0; round < 163; round++) {
            Check.due("keep", x.keep(), 0);
            Check.due("letGo", x.letGo(round % 6), crossings[round % 6]);
            Check.due("back", x.back(), 0);
        }
        Check.due("all are left", x.count(1), 6);
        Check.due("alike as call 512", x.alike(), 1);
    }

    private static void readingsToTheLast() {
        MaypoleRegister x = begun();
        for (int i = 22; i <= LAST - 3; i++) {
            int number = i - 19;
            int got = i % 3 == 0 ? x.read(0, 0, 0, true) : i % 3 == 1 ? x.readBond(0, 1, -48, true) : x.strike(2);
            Check.due("read", got, number < 24 ? number : Check.NONE);
        }
        Check.due("24", x.count(11), 24);
        Check.due("known by 24", x.known(24), true);
        // the one that struck the first is struck, so that the first counts: b at PLACE 0 behind three
        Check.due("fits as call 512", x.fits(0), 0);
    }

    private static void refusedOnesToTheLast() {
        MaypoleRegister x = begun();
        for (int i = 22; i <= LAST; i++) {
            Check.due("no such text", x.text(-1), -2);
            i++;
            Check.due("no such year", x.go(100), Check.NONE);
        }
        Check.due("four can be undone", x.count(13), 4);
    }

    private static void faultsToTheLast() {
        MaypoleRegister x = begun();
        for (int i = 22; i + 3 < LAST; i += 4) {
            // "dancer a;dancer a;  "
            x.feed(0x64616e63, 0x65722061, 0x3b64616e, 0x63657220, 0x613b2020);
            Check.due("text with a fault", x.text(20), Check.NONE);
            Check.due("told already", x.fault(0), 3);
            Check.due("at", x.fault(1), 16);
        }
        Check.due("crossings stay", x.count(5), 4);
    }
}
