/** The edges that the document names in promises 29 to 33, and in the terms of READ, STRUCK, KNOWN and FITS. */
public final class EdgesOfReadingTests {
    private static final int[] NO_NUMBERS = {-1, -2, Integer.MIN_VALUE, Integer.MIN_VALUE + 1, Integer.MAX_VALUE};

    public static void main(String[] args) {
        promise29NoSuchOnes();
        promise29EachDancerAndPlace();
        promise29BehindTheFirstN();
        promise29NoSuchPlaceNow();
        promise30NoSuchOnes();
        promise30EndsOfMuch();
        promise30AtLeastOrLess();
        promise31NoSuchOne();
        promise31StruckOnes();
        term3AskedFromTheLastOn();
        promise29To31AtMost24();
        promise32NoSuchN();
        promise32AllThoseToCome();
        promise32StruckByOneOfThese();
        promise33NoSuchCrossing();
        promise33CodesOfThoseWhoAreLeft();
        promise33NotLeftIsNotSo();
        promise33OfFull();
        term4ReadStays();
        Check.finish("EdgesOfReadingTests");
    }

    private static MaypoleRegister danced(int dancers, int... codes) {
        MaypoleRegister x = Check.withDancers(dancers);
        Check.cross(x, codes);
        return x;
    }

    // NONE: no such ones
    private static void promise29NoSuchOnes() {
        MaypoleRegister x = danced(3, 0);
        for (int number : NO_NUMBERS) {
            Check.due("n " + number, x.read(number, 0, 0, true), Check.NONE);
            Check.due("dancer " + number, x.read(0, number, 0, true), Check.NONE);
            Check.due("place " + number, x.read(0, 0, number, false), Check.NONE);
        }
        Check.due("n 49", x.read(49, 0, 0, true), Check.NONE);
        Check.due("dancer 3", x.read(0, 3, 0, true), Check.NONE);
        Check.due("place 6", x.read(0, 0, 6, false), Check.NONE);
        Check.due("none is read", x.count(11), 0);
        Check.due("n 0", x.read(0, 0, 0, true), 0);
        Check.due("n 48", x.read(48, 2, 5, false), 1);
        Check.due("nobody told", new MaypoleRegister().read(0, 0, 0, true), Check.NONE);
        Check.due("what isn't so is read", x.read(0, 0, 5, true), 2);
        x.letGo(2);
        Check.due("of one who let go", x.read(0, 2, 0, true), 3);
        x.letGo(1);
        x.letGo(0);
        Check.due("when nobody is left", x.read(0, 0, 0, true), 4);
    }

    private static void promise29EachDancerAndPlace() {
        for (int dancers = 1; dancers <= 6; dancers++) {
            for (int dancer = 0; dancer <= 6; dancer++) {
                for (int place = 0; place <= 6; place++) {
                    boolean can = dancer < dancers && place < 6;
                    int got = Check.withDancers(dancers).read(0, dancer, place, true);
                    Check.due("read of " + dancer + " at " + place + " among " + dancers, got, can ? 0 : Check.NONE);
                }
            }
        }
    }

    /** Whether just this reading lets the crossing be as it is. */
    private static void dueSo(MaypoleRegister x, int n, int dancer, int place, boolean want) {
        boolean[] both = {true, false};
        for (boolean is : both) {
            int number = x.read(n, dancer, place, is);
            int own = Check.code(x, x.count(5) - 1);
            boolean fits = (x.fits(x.count(5) - 1) >> own & 1) != 0;
            Check.due(dancer + " at " + place + " behind " + n + (is ? "" : ": not"), fits, want == is);
            x.strike(number);
        }
    }

    // behind the first n CROSSINGS 0 .. 48 of the PLAIT (all, if it has less) .. stands at a PLACE, or doesn't
    private static void promise29BehindTheFirstN() {
        int[][] orders = {{0, 1, 2, 3}, {1, 0, 2, 3}, {1, 2, 0, 3}, {1, 2, 3, 0}};
        for (int n = 0; n <= 48; n = n < 5 ? n + 1 : n + 43) {
            for (int place = 0; place < 4; place++) {
                MaypoleRegister x = danced(4, 0, 3, 4);
                int[] order = orders[Math.min(n, 3)];
                for (int dancer = 0; dancer < 4; dancer++) {
                    dueSo(x, n, dancer, place, order[place] == dancer);
                }
            }
        }
        MaypoleRegister x = Check.withDancers(2);
        for (int i = 0; i < 48; i++) {
            Check.cross(x, 0);
        }
        dueSo(x, 48, 0, 0, true);
        dueSo(x, 47, 0, 1, true);
        dueSo(x, 47, 0, 0, false);
    }

    private static void promise29NoSuchPlaceNow() {
        MaypoleRegister x = danced(3, 0);
        dueSo(x, 0, 2, 3, false);
        dueSo(x, 48, 2, 5, false);
        dueSo(x, 0, 2, 2, true);
    }

    private static void promise30NoSuchOnes() {
        MaypoleRegister x = danced(3, 0);
        for (int number : NO_NUMBERS) {
            Check.due("one " + number, x.readBond(number, 0, 0, true), Check.NONE);
            Check.due("other " + number, x.readBond(0, number, 0, true), Check.NONE);
        }
        for (int dancer = 0; dancer < 3; dancer++) {
            Check.due("alike", x.readBond(dancer, dancer, 0, true), Check.NONE);
            Check.due("with 3", x.readBond(dancer, 3, 0, true), Check.NONE);
            Check.due("of 3", x.readBond(3, dancer, 0, true), Check.NONE);
        }
        Check.due("none is read", x.count(11), 0);
        Check.due("two of three", x.readBond(2, 1, 0, true), 0);
        x.letGo(2);
        Check.due("one let go", x.readBond(2, 1, 0, true), 1);
        Check.due("the other let go", x.readBond(1, 2, 0, true), 2);
        x.letGo(1);
        Check.due("both let go", x.readBond(1, 2, 0, false), 3);
        Check.due("one let go, alike", x.readBond(1, 1, 0, false), Check.NONE);
    }

    // so much -48 .. 48
    private static void promise30EndsOfMuch() {
        MaypoleRegister x = danced(2, 0);
        int[] none = {-49, 49, Integer.MIN_VALUE, Integer.MAX_VALUE, -100, 100};
        for (int much : none) {
            Check.due("much " + much, x.readBond(0, 1, much, true), Check.NONE);
            Check.due("less than " + much, x.readBond(0, 1, much, false), Check.NONE);
        }
        int[] some = {-48, -47, -1, 0, 1, 47, 48};
        for (int i = 0; i < some.length; i++) {
            Check.due("much " + some[i], x.readBond(0, 1, some[i], true), 2 * i);
            Check.due("less than " + some[i], x.readBond(1, 0, some[i], false), 2 * i + 1);
        }
    }

    private static void dueBond(MaypoleRegister x, int one, int other, int much, boolean atLeast, int want) {
        int number = x.readBond(one, other, much, atLeast);
        Check.due("bond " + (atLeast ? ">= " : "< ") + much, x.fits(x.count(5) - 1), want);
        x.strike(number);
    }

    // BOND of two is so much .. at least, or less
    private static void promise30AtLeastOrLess() {
        MaypoleRegister x = danced(2, 0, 0, 0);
        // the last one may be OVER (bond 3) or UNDER (bond 1)
        dueBond(x, 0, 1, 3, true, 0b01);
        dueBond(x, 0, 1, 4, true, 0);
        dueBond(x, 0, 1, 2, true, 0b01);
        dueBond(x, 0, 1, 1, true, 0b11);
        dueBond(x, 1, 0, 3, true, 0b01);
        x = danced(2, 0, 0, 0);
        dueBond(x, 0, 1, 1, false, 0);
        dueBond(x, 0, 1, 2, false, 0b10);
        dueBond(x, 0, 1, 3, false, 0b10);
        dueBond(x, 1, 0, 4, false, 0b11);
        x = danced(3, 1);
        // a and c never meet: their bond is 0
        dueBond(x, 0, 2, 0, true, 0b1111);
        dueBond(x, 0, 2, 1, true, 0);
        dueBond(x, 0, 2, 0, false, 0);
        dueBond(x, 2, 0, 1, false, 0b1111);
        dueBond(x, 0, 1, -1, true, 0b1111);
        dueBond(x, 0, 1, -1, false, 0);
        dueBond(x, 0, 1, 0, false, 0b0010);
        x = Check.withDancers(2);
        for (int i = 0; i < 48; i++) {
            Check.cross(x, 0);
        }
        dueBond(x, 0, 1, 48, true, 0b01);
        dueBond(x, 0, 1, 48, false, 0b10);
        dueBond(x, 0, 1, -48, false, 0);
        x = Check.withDancers(2);
        for (int i = 0; i < 48; i++) {
            Check.cross(x, 1);
        }
        dueBond(x, 0, 1, -48, true, 0b11);
        dueBond(x, 0, 1, -47, true, 0b01);
        dueBond(x, 0, 1, -47, false, 0b10);
    }

    // NONE: no such one
    private static void promise31NoSuchOne() {
        MaypoleRegister x = danced(3, 0);
        Check.due("none is read", x.strike(0), Check.NONE);
        Check.due("one", x.read(0, 0, 0, true), 0);
        for (int number : NO_NUMBERS) {
            Check.due("strike " + number, x.strike(number), Check.NONE);
        }
        Check.due("itself", x.strike(1), Check.NONE);
        Check.due("24", x.strike(24), Check.NONE);
        Check.due("the first", x.strike(0), 1);
        Check.due("what strikes", x.strike(1), 2);
        Check.due("the first again", x.strike(0), 3);
        Check.due("four are read", x.count(11), 4);
        Check.due("nothing to undo by it", x.count(13), 1);
    }

    // One may strike one ahead of it (STRUCK).
    private static void promise31StruckOnes() {
        MaypoleRegister x = danced(3, 0);
        x.read(1, 0, 1, true);
        x.readBond(0, 1, 0, false);
        Check.due("both", x.fits(0), 0b0010);
        x.strike(0);
        Check.due("the first is struck", x.fits(0), 0b0010);
        x.strike(1);
        Check.due("both are struck", x.fits(0), 0b1111);
        x.strike(2);
        Check.due("the first counts again", x.fits(0), 0b0011);
        x.strike(3);
        Check.due("both count again", x.fits(0), 0b0010);
        x.strike(0);
        Check.due("the first is struck by another", x.fits(0), 0b0010);
        x.strike(1);
        Check.due("both are struck again", x.fits(0), 0b1111);
    }

    // (what strikes may be STRUCK: then it doesn't count; asked from the last one on)
    private static void term3AskedFromTheLastOn() {
        MaypoleRegister x = danced(2, 0);
        x.readBond(0, 1, 1, true);
        for (int i = 0; i < 23; i++) {
            Check.due("fits", x.fits(0), i % 2 == 0 ? 0b01 : 0b11);
            Check.due("strike of the last", x.strike(i), i + 1);
        }
        Check.due("fits with 24", x.fits(0), 0b11);
        for (int n = 24; n >= 0; n--) {
            Check.due("known", x.known(n), true);
            Check.due("fits by " + n, x.fits(0), n % 2 == 1 ? 0b01 : 0b11);
        }
        // two strike the same one: one of these may be struck, the other counts
        x = danced(2, 0);
        x.readBond(0, 1, 1, true);
        x.strike(0);
        x.strike(0);
        x.strike(1);
        Check.due("struck by the other one", x.fits(0), 0b11);
        x.strike(2);
        Check.due("struck by none", x.fits(0), 0b01);
        // a strike that is struck by a struck one counts
        x = danced(2, 0);
        x.readBond(0, 1, 1, true);
        x.strike(0);
        x.strike(1);
        x.strike(2);
        Check.due("struck after all", x.fits(0), 0b11);
    }

    // NONE: .. or there are 24. READ, at most 24, numbered from 0 on
    private static void promise29To31AtMost24() {
        for (int kind = 0; kind < 3; kind++) {
            MaypoleRegister x = danced(3, 0);
            Check.due("the first", x.read(0, 0, 0, true), 0);
            for (int i = 1; i < 24; i++) {
                int got = kind == 0 ? x.read(0, 0, 0, true) : kind == 1 ? x.readBond(0, 1, 1, true) : x.strike(0);
                Check.due("number", got, i);
            }
            Check.due("a 25th read", x.read(0, 0, 0, true), Check.NONE);
            Check.due("a 25th readBond", x.readBond(0, 1, 1, true), Check.NONE);
            Check.due("a 25th strike", x.strike(0), Check.NONE);
            Check.due("strike 24", x.strike(24), Check.NONE);
            Check.due("24", x.count(11), 24);
            Check.due("known by 24", x.count(12), 24);
            Check.due("fits", x.fits(0), kind == 1 ? 0b0001 : 0b1111);
            x.back();
            x.undo();
            Check.due("24 still", x.count(11), 24);
            Check.text(x, "dancer a;dancer b;");
            Check.due("none then", x.count(11), 0);
            Check.due("0 again", x.readBond(0, 1, 0, true), 0);
        }
    }

    // false: no such n.
    private static void promise32NoSuchN() {
        MaypoleRegister x = danced(3, 0);
        Check.due("0 of none", x.known(0), true);
        Check.due("1 of none", x.known(1), false);
        Check.due("-1", x.known(-1), true);
        Check.due("-2", x.known(-2), false);
        Check.due("least", x.known(Integer.MIN_VALUE), false);
        Check.due("most", x.known(Integer.MAX_VALUE), false);
        x.read(1, 0, 1, true);
        Check.due("1 of one", x.known(1), true);
        Check.due("2 of one", x.known(2), false);
        Check.due("by one still", x.count(12), 1);
        for (int i = 1; i < 24; i++) {
            x.read(0, 0, 0, true);
        }
        Check.due("by one still", x.count(12), 1);
        Check.due("25 of 24", x.known(25), false);
        Check.due("by one still", x.count(12), 1);
        Check.due("24 of 24", x.known(24), true);
        Check.due("by 24", x.count(12), 24);
        Check.due("0 of 24", x.known(0), true);
        Check.due("by none", x.count(12), 0);
        Check.due("fits by none", x.fits(0), 0b1111);
    }

    // (-1: by all, also those to come); KNOWN by n (all at first)
    private static void promise32AllThoseToCome() {
        MaypoleRegister x = danced(3, 0);
        Check.due("by all at first", x.count(12), 0);
        x.read(1, 0, 1, true);
        Check.due("by the one to come", x.count(12), 1);
        Check.due("fits", x.fits(0), 0b0011);
        Check.due("by one", x.known(1), true);
        x.readBond(0, 1, 1, true);
        Check.due("by one still", x.count(12), 1);
        Check.due("fits by one", x.fits(0), 0b0011);
        Check.due("by all", x.known(-1), true);
        Check.due("by two", x.count(12), 2);
        Check.due("fits by all", x.fits(0), 0b0001);
        x.readBond(0, 1, 1, false);
        Check.due("by three", x.count(12), 3);
        Check.due("fits by all", x.fits(0), 0);
        Check.due("by 3", x.known(3), true);
        x.strike(2);
        Check.due("not by the fourth", x.fits(0), 0);
        Check.due("by 3 still", x.count(12), 3);
        Check.due("by -2: refused", x.known(-2), false);
        Check.due("by 3 still", x.count(12), 3);
        Check.due("by all", x.known(-1), true);
        Check.due("by the fourth too", x.fits(0), 0b0001);
        x.known(0);
        Check.text(x, "dancer a;dancer b;");
        x.readBond(0, 1, 1, true);
        Check.due("by all at first", x.count(12), 1);
        x.known(0);
        Check.text(x, "slip 101;");
        Check.due("a fault leaves it", x.count(12), 0);
    }

    // the first n that aren't STRUCK by one of these
    private static void promise32StruckByOneOfThese() {
        MaypoleRegister x = danced(3, 0);
        x.readBond(0, 1, 1, true);
        x.read(1, 0, 1, false);
        x.strike(1);
        x.strike(0);
        x.strike(3);
        int[] wants = {0b1111, 0b0001, 0, 0b0001, 0b1111, 0b0001};
        for (int n = 0; n <= 5; n++) {
            Check.due("known", x.known(n), true);
            Check.due("fits by " + n, x.fits(0), wants[n]);
        }
    }

    // NONE: no such CROSSING.
    private static void promise33NoSuchCrossing() {
        MaypoleRegister x = Check.withDancers(3);
        Check.due("0 of none", x.fits(0), Check.NONE);
        Check.cross(x, 0, 2);
        Check.due("0", x.fits(0), 0b1111);
        Check.due("1", x.fits(1), 0b1111);
        Check.due("2", x.fits(2), Check.NONE);
        for (int number : NO_NUMBERS) {
            Check.due("fits " + number, x.fits(number), Check.NONE);
        }
        x.read(0, 0, 5, true);
        Check.due("none fits", x.fits(1), 0);
        Check.due("2 still", x.fits(2), Check.NONE);
        x.letGo(0);
        Check.due("none left", x.fits(0), Check.NONE);
    }

    // CODES (bits 0 .. 9) that it may have in place of its own
    private static void promise33CodesOfThoseWhoAreLeft() {
        int[] all = {0, 0, 0b11, 0b1111, 0b111111, 0b11111111, 0b1111111111};
        for (int dancers = 2; dancers <= 6; dancers++) {
            Check.due("codes of " + dancers, danced(dancers, 1).fits(0), all[dancers]);
        }
        MaypoleRegister x = danced(6, 0, 8);
        x.letGo(2);
        Check.due("codes of five", x.fits(1), all[5]);
        x.letGo(3);
        x.letGo(5);
        Check.due("codes of three", x.fits(0), all[3]);
        x.letGo(4);
        Check.due("codes of two", x.fits(0), all[2]);
        // each code by what it does
        for (int code = 0; code < 10; code++) {
            x = danced(6, code);
            x.read(1, code / 2, code / 2 + 1, true);
            x.readBond(code / 2 + 1, code / 2, code % 2 == 0 ? 1 : 0, code % 2 == 0);
            Check.due("just code " + code, x.fits(0), 1 << code);
            Check.duePlait("the plait stays", x, code);
        }
        // those behind it go on from where it leads
        x = danced(3, 0, 2);
        x.read(2, 0, 2, true);
        Check.due("a must go by place 0", x.fits(0), 0b0011);
        Check.due("then by place 1", x.fits(1), 0b1100);
    }

    // (what tells of one who isn't LEFT isn't so)
    private static void promise33NotLeftIsNotSo() {
        boolean[] both = {true, false};
        for (boolean is : both) {
            MaypoleRegister x = danced(4, 0, 4);
            x.letGo(3);
            x.read(0, 3, 0, is);
            Check.due("a place of d", x.fits(0), 0);
            x.strike(0);
            Check.due("struck", x.fits(0), 0b1111);
            x.readBond(0, 3, 0, is);
            Check.due("a bond with d", x.fits(0), 0);
            x.strike(2);
            x.readBond(3, 0, 0, is);
            Check.due("a bond of d", x.fits(0), 0);
            x.strike(4);
            x.letGo(2);
            x.readBond(3, 2, 0, is);
            Check.due("a bond of two who let go", x.fits(0), 0);
            x.strike(6);
            Check.due("all struck", x.fits(0), 0b11);
        }
        // read while d was left, asked when d isn't
        MaypoleRegister x = danced(4, 0);
        x.read(0, 3, 3, true);
        x.readBond(0, 3, 0, true);
        Check.due("so", x.fits(0), 0b111111);
        x.letGo(3);
        Check.due("not so", x.fits(0), 0);
        x.undo();
        Check.due("so again", x.fits(0), 0b111111);
    }

    private static void promise33OfFull() {
        MaypoleRegister x = Check.withDancers(6);
        for (int i = 0; i < 48; i++) {
            Check.cross(x, i % 2 == 0 ? 0 : 8);
        }
        x.read(48, 0, 0, true);
        x.read(48, 5, 5, true);
        Check.due("the first", x.fits(0), 0b0000000011);
        Check.due("the last", x.fits(47), 0b1100000000);
        Check.due("48", x.fits(48), Check.NONE);
        x.readBond(0, 1, 24, true);
        x.readBond(4, 5, 24, true);
        Check.due("the first, over", x.fits(0), 0b0000000001);
        Check.due("the last, over", x.fits(47), 0b0100000000);
        x.read(47, 5, 4, true);
        Check.due("behind 47", x.fits(47), 0b0100000000);
        x.read(46, 5, 4, true);
        Check.due("behind 46", x.fits(47), 0b0100000000);
        x.read(46, 5, 5, true);
        Check.due("none fits", x.fits(47), 0);
        Check.due("48 still", x.count(5), 48);
    }

    // An IMAGE keeps all but what was READ, by how many it is KNOWN ..
    private static void term4ReadStays() {
        MaypoleRegister x = danced(3, 0);
        x.read(1, 0, 1, true);
        x.keep();
        x.readBond(0, 1, 1, true);
        x.known(1);
        x.back();
        Check.due("read stays", x.count(11), 2);
        Check.due("known stays", x.count(12), 1);
        Check.due("fits", x.fits(0), 0b0011);
        x.known(-1);
        x.keep();
        x.known(0);
        x.strike(0);
        x.back();
        Check.due("read stays", x.count(11), 3);
        Check.due("known stays", x.count(12), 0);
        Check.cross(x, 0);
        x.undo();
        x.go(1);
        Check.due("undo and years leave it", x.count(11), 3);
    }
}
