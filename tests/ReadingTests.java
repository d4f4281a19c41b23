/** Promises 29 to 33: what was read, what is struck, what is known, which crossing it may have been. */
public final class ReadingTests {
    private static final int ALL_OF_THREE = 0b1111;

    public static void main(String[] args) {
        promise29Read();
        promise29ReadIsSo();
        promise30ReadBond();
        promise30ReadBondIsSo();
        promise31Strike();
        promise31StruckStrikes();
        promise32Known();
        promise33Fits();
        promise33FitsOfThoseWhoLetGo();
        atMostTwentyFour();
        Check.finish("ReadingTests");
    }

    /** Three dancers, one crossing: 0 over 1. */
    private static MaypoleRegister ofOneCrossing() {
        MaypoleRegister x = Check.withDancers(3);
        Check.cross(x, 0);
        return x;
    }

    private static void promise29Read() {
        MaypoleRegister x = ofOneCrossing();
        Check.due("first", x.read(0, 0, 0, true), 0);
        Check.due("second, n and place at their most", x.read(48, 2, 5, false), 1);
        Check.due("n 49", x.read(49, 0, 0, true), Check.NONE);
        Check.due("n below 0", x.read(-1, 0, 0, true), Check.NONE);
        Check.due("no dancer 3", x.read(0, 3, 0, true), Check.NONE);
        Check.due("dancer below 0", x.read(0, -1, 0, true), Check.NONE);
        Check.due("place 6", x.read(0, 0, 6, true), Check.NONE);
        Check.due("place below 0", x.read(0, 0, -1, true), Check.NONE);
        Check.due("two are read", x.count(11), 2);
        x.letGo(1);
        Check.due("a dancer who isn't left", x.read(0, 1, 0, true), 2);
        Check.due("one who is", x.read(0, 2, 0, true), 3);
        Check.due("of nobody", new MaypoleRegister().read(0, 0, 0, true), Check.NONE);
    }

    /** What fits the first crossing if just this is read. */
    private static void dueFits(MaypoleRegister x, int n, int dancer, int place, boolean is, int want) {
        int number = x.read(n, dancer, place, is);
        Check.due("fits with " + dancer + " at " + place + " behind " + n, x.fits(0), want);
        x.strike(number);
        Check.due("fits when it is struck", x.fits(0), ALL_OF_THREE);
    }

    private static void promise29ReadIsSo() {
        MaypoleRegister x = ofOneCrossing();
        dueFits(x, 1, 0, 1, true, 0b0011);
        dueFits(x, 1, 0, 1, false, 0b1100);
        dueFits(x, 0, 0, 1, true, 0);
        dueFits(x, 0, 0, 0, true, ALL_OF_THREE);
        dueFits(x, 48, 0, 1, true, 0b0011);
        dueFits(x, 1, 2, 1, true, 0b1100);
        dueFits(x, 1, 0, 5, true, 0);
        dueFits(x, 1, 0, 5, false, ALL_OF_THREE);
        x = ofOneCrossing();
        Check.cross(x, 2);
        dueFits(x, 1, 0, 1, true, 0b0011);
        dueFits(x, 2, 0, 2, true, 0b0011);
        dueFits(x, 3, 0, 0, true, 0b1100);
        Check.due("fits of the second one", x.fits(1), ALL_OF_THREE);
    }

    private static void promise30ReadBond() {
        MaypoleRegister x = ofOneCrossing();
        Check.due("first", x.readBond(0, 1, 48, true), 0);
        Check.due("second", x.readBond(2, 0, -48, false), 1);
        Check.due("49", x.readBond(0, 1, 49, true), Check.NONE);
        Check.due("-49", x.readBond(0, 1, -49, true), Check.NONE);
        Check.due("alike", x.readBond(1, 1, 0, true), Check.NONE);
        Check.due("no such one", x.readBond(3, 1, 0, true), Check.NONE);
        Check.due("no such other", x.readBond(1, 3, 0, true), Check.NONE);
        Check.due("below 0", x.readBond(-1, 1, 0, true), Check.NONE);
        Check.due("below 0", x.readBond(1, -1, 0, true), Check.NONE);
        Check.due("two are read", x.count(11), 2);
    }

    private static void dueFitsBond(MaypoleRegister x, int one, int other, int much, boolean atLeast, int want) {
        int number = x.readBond(one, other, much, atLeast);
        Check.due("fits with bond of " + one + " " + other + " and " + much, x.fits(0), want);
        x.strike(number);
    }

    private static void promise30ReadBondIsSo() {
        MaypoleRegister x = ofOneCrossing();
        // the CODES 0 and 1 bind 0 and 1, 2 and 3 bind 1 and 2
        dueFitsBond(x, 0, 1, 1, true, 0b0001);
        dueFitsBond(x, 1, 0, 1, true, 0b0001);
        dueFitsBond(x, 0, 1, 1, false, 0b1110);
        dueFitsBond(x, 0, 1, 0, true, 0b1101);
        dueFitsBond(x, 0, 1, 0, false, 0b0010);
        dueFitsBond(x, 1, 2, 0, false, 0b1000);
        dueFitsBond(x, 0, 1, -1, true, 0b1111);
        dueFitsBond(x, 0, 1, 2, true, 0);
    }

    private static void promise31Strike() {
        MaypoleRegister x = ofOneCrossing();
        Check.due("nothing to strike", x.strike(0), Check.NONE);
        x.read(0, 0, 5, true);
        Check.due("itself", x.strike(1), Check.NONE);
        Check.due("below 0", x.strike(-1), Check.NONE);
        Check.due("most", x.strike(Integer.MAX_VALUE), Check.NONE);
        Check.due("not so", x.fits(0), 0);
        Check.due("struck", x.strike(0), 1);
        Check.due("it doesn't count", x.fits(0), ALL_OF_THREE);
        Check.due("struck again", x.strike(0), 2);
        Check.due("it doesn't count", x.fits(0), ALL_OF_THREE);
    }

    private static void promise31StruckStrikes() {
        MaypoleRegister x = ofOneCrossing();
        x.read(0, 0, 5, true);
        x.strike(0);
        Check.due("what strikes is struck", x.strike(1), 2);
        Check.due("it counts again", x.fits(0), 0);
        Check.due("once more", x.strike(2), 3);
        Check.due("struck again", x.fits(0), ALL_OF_THREE);
        x.known(3);
        Check.due("by three", x.fits(0), 0);
        x.known(2);
        Check.due("by two", x.fits(0), ALL_OF_THREE);
        x.known(1);
        Check.due("by one", x.fits(0), 0);
        x.known(0);
        Check.due("by none", x.fits(0), ALL_OF_THREE);
    }

    private static void promise32Known() {
        MaypoleRegister x = ofOneCrossing();
        Check.due("no read, by 0", x.known(0), true);
        Check.due("no read, by 1", x.known(1), false);
        Check.due("by all", x.known(-1), true);
        x.read(1, 0, 1, true);
        x.readBond(0, 1, 1, true);
        Check.due("by all those to come", x.fits(0), 0b0001);
        Check.due("how many", x.count(12), 2);
        Check.due("by 1", x.known(1), true);
        Check.due("by 1", x.fits(0), 0b0011);
        Check.due("by 3", x.known(3), false);
        Check.due("by -2", x.known(-2), false);
        Check.due("most", x.known(Integer.MAX_VALUE), false);
        Check.due("still by 1", x.count(12), 1);
        Check.due("by 2", x.known(2), true);
        x.read(0, 0, 1, true);
        Check.due("not by those to come", x.fits(0), 0b0001);
        Check.due("still by 2", x.count(12), 2);
        Check.due("by all", x.known(-1), true);
        Check.due("by all", x.fits(0), 0);
        Check.due("how many", x.count(12), 3);
    }

    private static void promise33Fits() {
        MaypoleRegister x = Check.withDancers(6);
        Check.due("no crossing", x.fits(0), Check.NONE);
        Check.cross(x, 0, 2, 4, 6, 8);
        // 0 went all the way: they stand 1 2 3 4 5 0
        Check.due("all codes", x.fits(2), 0b1111111111);
        Check.due("no such crossing", x.fits(5), Check.NONE);
        Check.due("below 0", x.fits(-1), Check.NONE);
        Check.due("most", x.fits(Integer.MAX_VALUE), Check.NONE);
        x.read(48, 0, 5, true);
        Check.due("0 gets there by place 2 only", x.fits(2), 0b0000110000);
        x.readBond(0, 3, 0, true);
        Check.due("and over", x.fits(2), 0b0000010000);
        Check.due("the first one", x.fits(0), 0b0000000011);
        x.read(0, 1, 1, true);
        Check.due("so at first as well", x.fits(2), 0b0000010000);
        Check.duePlait("stays", x, 0, 2, 4, 6, 8);
        x.letGo(5);
        Check.due("0 can't be there", x.fits(2), 0);
        x.known(0);
        Check.due("codes of five", x.fits(2), 0b0011111111);
    }

    private static void promise33FitsOfThoseWhoLetGo() {
        MaypoleRegister x = Check.withDancers(4);
        Check.cross(x, 0);
        x.read(0, 3, 0, false);
        x.readBond(2, 3, 5, false);
        x.readBond(3, 2, 5, false);
        x.known(0);
        x.letGo(3);
        Check.due("known by none", x.fits(0), 0b1111);
        x.known(1);
        Check.due("what tells of one who isn't left isn't so", x.fits(0), 0);
        x.known(-1);
        x.strike(0);
        Check.due("the bonds aren't so", x.fits(0), 0);
        x.strike(1);
        Check.due("the other one isn't so", x.fits(0), 0);
        x.strike(2);
        Check.due("all struck", x.fits(0), 0b1111);
        Check.due("a bond of one who isn't left is read", x.readBond(0, 3, 0, true), 6);
        Check.due("and isn't so", x.fits(0), 0);
        x.strike(6);
        Check.due("struck too", x.fits(0), 0b1111);
        Check.due("a place of one who isn't left is read", x.read(0, 3, 0, false), 8);
        Check.due("and isn't so", x.fits(0), 0);
        Check.due("the place where he stood", x.read(0, 3, 3, true), 9);
        x.strike(8);
        Check.due("isn't so either", x.fits(0), 0);
        x.undo();
        Check.due("he is back", x.fits(0), 0b111111);
    }

    private static void atMostTwentyFour() {
        MaypoleRegister x = ofOneCrossing();
        for (int i = 0; i < 24; i += 3) {
            Check.due("read", x.read(1, 0, 1, true), i);
            Check.due("readBond", x.readBond(0, 1, 0, true), i + 1);
            Check.due("strike", x.strike(i), i + 2);
        }
        Check.due("a 25th read", x.read(1, 0, 1, true), Check.NONE);
        Check.due("a 25th readBond", x.readBond(0, 1, 0, true), Check.NONE);
        Check.due("a 25th strike", x.strike(0), Check.NONE);
        Check.due("24", x.count(11), 24);
        Check.due("known by 24", x.known(24), true);
        Check.due("known by 25", x.known(25), false);
        Check.due("fits", x.fits(0), 0b1101);
    }
}
