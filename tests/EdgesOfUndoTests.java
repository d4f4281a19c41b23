/** The edges that the document names in term 4 and in promises 36 to 38: what is undone, images. */
public final class EdgesOfUndoTests {
    public static void main(String[] args) {
        promise36None();
        promise36EachOne();
        promise36WhatIsRefused();
        promise36TwentyAtMost();
        promise36AgainAndAgain();
        promise36OfFullPlaits();
        promise36NoYearWentBy();
        promise36WhatElseTakesIt();
        promise36WhatStays();
        promise37InPlaceOfOneAhead();
        promise37WhichYear();
        promise38None();
        promise38AllThatItKeeps();
        promise38NotWhatWasRead();
        promise38NotTapeAndFault();
        promise38Numbers();
        promise38NothingToUndoThen();
        promise38AgainAndAgain();
        Check.finish("EdgesOfUndoTests");
    }

    private static MaypoleRegister danced(int dancers, int... codes) {
        MaypoleRegister x = Check.withDancers(dancers);
        Check.cross(x, codes);
        return x;
    }

    // NONE: none.
    private static void promise36None() {
        MaypoleRegister x = new MaypoleRegister();
        Check.due("of a new one", x.undo(), Check.NONE);
        x = danced(2, 0);
        Check.due("one", x.count(13), 1);
        Check.due("none is left", x.undo(), 0);
        Check.due("none", x.undo(), Check.NONE);
        Check.due("none still", x.undo(), Check.NONE);
        Check.due("crossings", x.count(5), 0);
        Check.due("vows", x.count(6), 0);
        Check.due("can be undone", x.count(13), 0);
    }

    // Crossing, letting go, sliding, feasts by call can be undone, the latest first
    private static void promise36EachOne() {
        MaypoleRegister x = Check.with("dancer a;dancer b;dancer c;dancer d;law vow many+3;");
        Check.cross(x, 0, 4, 2, 4, 5);
        Check.due("swap", x.swap(0), true);
        Check.due("cancel", x.cancel(3), true);
        Check.cross(x, 4, 2);
        Check.due("slide", x.slide(2), true);
        Check.due("feast", x.feast(0, 3), 8);
        int before = x.count(6);
        Check.due("let go", x.letGo(0) < 8, true);
        Check.due("twelve", x.count(13), 12);
        Check.due("letting go is undone", x.undo(), 11);
        Check.duePlait("with a", x, 4, 0, 4, 2, 4, 0, 0, 4);
        Check.due("a is left", x.dancer(0, 0), 1);
        Check.due("the feast is undone", x.undo(), 10);
        Check.duePlait("without the feast", x, 4, 0, 4, 2, 4);
        Check.due("the slide is undone", x.undo(), 9);
        Check.duePlait("without the slide", x, 4, 0, 2, 4, 2);
        Check.due("vows stay so far", x.count(6), before);
        Check.due("a crossing is undone", x.undo(), 8);
        Check.due("its vow 7 is", x.count(6), before - 7);
        Check.due("a crossing is undone", x.undo(), 7);
        Check.due("its vow 6 is", x.count(6), before - 13);
        Check.due("the cancel is undone", x.undo(), 6);
        Check.duePlait("without the cancel", x, 4, 0, 2, 4, 5);
        Check.due("the swap is undone", x.undo(), 5);
        Check.duePlait("without the swap", x, 0, 4, 2, 4, 5);
        int vows = 3 + 4 + 5 + 6 + 7;
        for (int left = 4; left >= 0; left--) {
            Check.due("vows of " + (left + 1), x.count(6), vows);
            vows -= left + 3;
            Check.due("a crossing is undone", x.undo(), left);
            Check.due("crossings", x.count(5), left);
        }
        Check.due("no vows", x.count(6), 0);
        Check.due("none", x.undo(), Check.NONE);
    }

    private static void promise36WhatIsRefused() {
        MaypoleRegister x = Check.with("dancer a;dancer b;law may many<1;");
        Check.cross(x, 0);
        x.cross(0, true);
        x.cross(1, true);
        x.letGo(2);
        x.swap(0);
        x.cancel(0);
        x.slide(0);
        x.feast(0, 0);
        x.feast(-1, 1);
        x.ahead(9, 0);
        x.tried(2, 0, 9);
        x.danceBack(0);
        x.lean();
        x.tied(0, 1, 2);
        x.freed(0);
        x.fits(0);
        x.chance(0, 9);
        x.keep();
        x.read(0, 0, 0, true);
        Check.due("one can be undone", x.count(13), 1);
        Check.due("none then", x.undo(), 0);
    }

    // (20 at most)
    private static void promise36TwentyAtMost() {
        for (int many = 18; many <= 48; many++) {
            MaypoleRegister x = Check.withDancers(3);
            for (int i = 0; i < many; i++) {
                Check.cross(x, (i + 3) % 4);
            }
            int can = Math.min(20, many);
            Check.due("of " + many, x.count(13), can);
            for (int left = can - 1; left >= 0; left--) {
                Check.due("undone of " + many, x.undo(), left);
                Check.due("crossings of " + many, x.count(5), many - can + left);
            }
            Check.due("no more of " + many, x.undo(), Check.NONE);
            Check.due("the rest stays", x.count(5), many - can);
            Check.due("vows of the rest", x.count(6), many - can);
            for (int i = 0; i < many - can; i++) {
                Check.due("code", Check.code(x, i), (i + 3) % 4);
            }
        }
    }

    private static void promise36AgainAndAgain() {
        MaypoleRegister x = Check.withDancers(3);
        for (int round = 0; round < 9; round++) {
            for (int i = 0; i < 7; i++) {
                Check.cross(x, (round + 3) % 4);
            }
            for (int i = 0; i < 4; i++) {
                x.undo();
            }
            Check.due("can be undone", x.count(13), Math.min(16, 3 * (round + 1)));
            Check.due("crossings", x.count(5), 3 * (round + 1));
        }
        for (int i = 15; i >= 0; i--) {
            Check.due("undone", x.undo(), i);
        }
        Check.due("crossings", x.count(5), 11);
        Check.due("none", x.undo(), Check.NONE);
        for (int i = 0; i < 11; i++) {
            Check.due("code", Check.code(x, i), (i / 3 + 3) % 4);
        }
        // twenty and one more, the first one is gone for good
        x = danced(2, 0);
        for (int i = 0; i < 20; i++) {
            Check.due("let go and undone", x.letGo(0) + x.undo(), 1);
        }
        Check.due("the crossing can be undone", x.undo(), 0);
    }

    private static void promise36OfFullPlaits() {
        MaypoleRegister x = Check.with("dancer a;dancer b;dancer c;");
        x.feast(1, 20);
        x.feast(2, 20);
        x.feast(3, 8);
        int[] codes = new int[48];
        for (int i = 0; i < 48; i++) {
            codes[i] = Check.code(x, i);
        }
        for (int dancer = 0; dancer < 3; dancer++) {
            x.letGo(dancer);
        }
        Check.due("nobody is left", x.count(1), 0);
        for (int left = 5; left >= 3; left--) {
            Check.due("undone", x.undo(), left);
        }
        Check.duePlait("all 48 again", x, codes);
        Check.due("the third feast", x.undo(), 2);
        Check.due("40", x.count(5), 40);
        Check.due("the second", x.undo(), 1);
        Check.due("the first", x.undo(), 0);
        Check.due("none", x.count(5), 0);
    }

    // if no YEAR went by since
    private static void promise36NoYearWentBy() {
        MaypoleRegister x = danced(3, 0, 2);
        Check.due("no year", x.go(0), 0);
        Check.due("two can be undone", x.count(13), 2);
        Check.due("refused", x.go(100), Check.NONE);
        Check.due("refused", x.go(-1), Check.NONE);
        Check.due("two can be undone", x.count(13), 2);
        Check.due("one year", x.go(1), 1);
        Check.due("none can", x.count(13), 0);
        Check.due("none", x.undo(), Check.NONE);
        Check.due("crossings stay", x.count(5), 2);
        Check.cross(x, 0);
        Check.due("one can", x.count(13), 1);
        Check.due("undone", x.undo(), 0);
        Check.due("none of the year ahead", x.undo(), Check.NONE);
        Check.cross(x, 0);
        x.go(99);
        Check.due("99 years", x.undo(), Check.NONE);
        Check.due("crossings stay", x.count(5), 3);
    }

    private static void promise36WhatElseTakesIt() {
        MaypoleRegister x = danced(3, 0, 2);
        x.keep();
        Check.due("an image doesn't", x.count(13), 2);
        Check.text(x, "slip 101;");
        Check.due("a text with a fault doesn't", x.count(13), 2);
        x.text(1);
        Check.due("nor one that is refused", x.count(13), 2);
        x.back();
        Check.due("back does", x.count(13), 0);
        Check.cross(x, 0);
        x.text(0);
        Check.due("a text does", x.count(13), 0);
        Check.due("none", x.undo(), Check.NONE);
        x = danced(3, 0);
        Check.due("back without an image", x.back(), Check.NONE);
        Check.due("doesn't", x.count(13), 1);
    }

    private static void promise36WhatStays() {
        MaypoleRegister x = Check.with("dancer a;dancer b;over 0 0;over 0 1;slip 100;");
        x.go(1);
        Check.cross(x, 0);
        x.keep();
        x.read(0, 0, 0, true);
        x.known(0);
        Check.feed(x, "slip 5;");
        Check.due("undone", x.undo(), 0);
        Check.due("the year stays", x.count(4), 1);
        Check.due("refused stays", x.count(7), 1);
        Check.due("slipped stays", x.count(8), 1);
        Check.due("vows of the year stay", x.count(6), 1);
        Check.due("read stays", x.count(11), 1);
        Check.due("known stays", x.count(12), 0);
        Check.due("the image stays", x.alike(), 0);
        Check.due("the tape stays", x.feed(0, 0, 0, 0, 0), 40);
    }

    // An IMAGE is kept (in place of one ahead)
    private static void promise37InPlaceOfOneAhead() {
        MaypoleRegister x = danced(3, 0);
        Check.due("keep", x.keep(), 0);
        Check.cross(x, 2);
        Check.due("keep", x.keep(), 0);
        Check.cross(x, 2);
        Check.due("another plait", x.alike(), 0);
        Check.due("back", x.back(), 0);
        Check.duePlait("the second image", x, 0, 2);
        x.letGo(2);
        Check.due("others are left", x.alike(), 0);
        x.keep();
        Check.due("the third image", x.alike(), 1);
        Check.due("undone", x.undo(), 0);
        Check.due("the image stays as it is", x.alike(), 0);
        x.back();
        Check.due("without c", x.count(1), 2);
    }

    // which YEAR it is
    private static void promise37WhichYear() {
        MaypoleRegister x = Check.withDancers(2);
        Check.due("keep in 0", x.keep(), 0);
        x.go(99);
        Check.due("keep in 99", x.keep(), 99);
        x.go(7);
        Check.due("back in 99", x.back(), 99);
        Check.due("year", x.count(4), 99);
        x.go(1);
        Check.due("keep in 100", x.keep(), 100);
        Check.due("back in 100", x.back(), 100);
    }

    // NONE: there is none.
    private static void promise38None() {
        MaypoleRegister x = danced(3, 0, 2);
        Check.due("none", x.back(), Check.NONE);
        Check.duePlait("the plait stays", x, 0, 2);
        Check.due("two can be undone", x.count(13), 2);
        x.keep();
        Check.text(x, "dancer a;dancer b;");
        Check.due("a text takes it", x.back(), Check.NONE);
        Check.due("of a new one", new MaypoleRegister().back(), Check.NONE);
    }

    // All that it keeps is as in the IMAGE
    private static void promise38AllThatItKeeps() {
        MaypoleRegister x = Check.with("dancer a;dancer b;dancer c;over 0 0;over 0 2;over 1 1;under 1 0;over 2 0;over 3 4;"
                + "law vow 3;law loosen (year=0)*100;");
        x.go(2);
        x.letGo(1);
        int[] want = new int[14];
        for (int what = 0; what < want.length; what++) {
            want[what] = x.count(what);
        }
        Check.due("refused", want[7], 1);
        Check.due("slipped", want[8], 1);
        int crossings = want[5];
        want[13] = 0;
        Check.due("keep", x.keep(), 2);
        x.go(5);
        x.letGo(0);
        x.feast(1, 1);
        x.letGo(2);
        Check.due("back", x.back(), 2);
        for (int what = 0; what < want.length; what++) {
            Check.due("count " + what, x.count(what), want[what]);
        }
        Check.due("crossings", x.count(5), crossings);
        Check.due("a is left", x.dancer(0, 0), 1);
        Check.due("b isn't", x.dancer(1, 0), 0);
        Check.due("alike", x.alike(), 1);
        Check.due("what comes is as it was", x.ahead(1, 0), crossings + 1);
    }

    // An IMAGE keeps all but what was READ, by how many it is KNOWN
    private static void promise38NotWhatWasRead() {
        MaypoleRegister x = danced(2, 0);
        x.keep();
        x.read(0, 0, 0, true);
        x.read(0, 1, 1, true);
        x.known(1);
        x.back();
        Check.due("read", x.count(11), 2);
        Check.due("known", x.count(12), 1);
        x.known(-1);
        x.strike(0);
        x.back();
        Check.due("read", x.count(11), 3);
        Check.due("known by all", x.count(12), 3);
    }

    // the TAPE and the FAULT
    private static void promise38NotTapeAndFault() {
        MaypoleRegister x = danced(2, 0);
        x.keep();
        Check.text(x, "slip 101;");
        x.feed(0x20202020, 0x20202020, 0x20202020, 0x20202020, 0x20202020);
        x.back();
        Check.due("the fault stays", x.fault(0), 2);
        Check.due("its place stays", x.fault(1), 5);
        Check.due("the tape stays", x.feed(0x20202020, 0x20202020, 0x20202020, 0x20202020, 0x20202020), 40);
        x.keep();
        x.text(-1);
        x.back();
        Check.due("the fault stays", x.fault(0), 2);
        Check.due("forty bytes", x.text(41), -2);
    }

    private static void promise38Numbers() {
        MaypoleRegister x = Check.with("dancer a;dancer b;seed 5;slip 60;");
        x.feast(1, 20);
        x.go(3);
        // the numbers from the seed 5: 55, 57, 16, then 77, 93, 64, 4, 67, 72, 60, 37
        Check.due("three slipped", x.count(8), 3);
        int[] slipped = {3, 3, 3, 4, 4, 4, 4, 5};
        x.keep();
        for (int round = 0; round < 3; round++) {
            for (int year = 0; year < slipped.length; year++) {
                x.go(1);
                Check.due("slipped behind year " + (3 + year), x.count(8), slipped[year]);
            }
            Check.due("back", x.back(), 3);
            Check.due("three slipped", x.count(8), 3);
            Check.due("17 crossings", x.count(5), 17);
        }
    }

    // (nothing to undo then)
    private static void promise38NothingToUndoThen() {
        MaypoleRegister x = danced(3, 0, 2, 0);
        x.keep();
        Check.due("three can be undone", x.count(13), 3);
        Check.due("back", x.back(), 0);
        Check.due("none", x.undo(), Check.NONE);
        Check.duePlait("the plait stays", x, 0, 2, 0);
        Check.cross(x, 1);
        Check.due("one", x.undo(), 0);
        Check.due("none", x.undo(), Check.NONE);
    }

    private static void promise38AgainAndAgain() {
        MaypoleRegister x = Check.withDancers(6);
        x.feast(9, 20);
        x.feast(9, 20);
        x.feast(9, 8);
        x.keep();
        int first = Check.code(x, 0);
        int last = Check.code(x, 47);
        for (int i = 0; i < 30; i++) {
            x.letGo(i % 6);
            x.go(i);
            Check.due("back", x.back(), 0);
            Check.due("48", x.count(5), 48);
            Check.due("all are left", x.count(1), 6);
            Check.due("the first", Check.code(x, 0), first);
            Check.due("the last", Check.code(x, 47), last);
            Check.due("alike", x.alike(), 1);
        }
    }
}
