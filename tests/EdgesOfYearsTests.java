/** The edges that the document names in promises 20, 21, 28, 34 and 35, and in the terms of YEARS they rest on. */
public final class EdgesOfYearsTests {
    private static final int[] NO_NUMBERS = {-1, -2, Integer.MIN_VALUE, Integer.MIN_VALUE + 1, Integer.MAX_VALUE};
    private static final String TWO = "dancer a;dancer b;";
    private static final String THREE = "dancer a;dancer b;dancer c;";

    public static void main(String[] args) {
        promise20NoSuchNumber();
        promise20NotBehind9900();
        promise20FirstAndLastYearTold();
        term2ByNumbers();
        term2NoSuchPlace();
        term2LessThan48();
        term2MayIsNotNothing();
        term2VowsOfYears();
        term2EndsOfOdds();
        term2NumberBelowOdds();
        term2NoNumber();
        term2NoCrossingNoNumber();
        term2NumbersGoOn();
        term2SlipWithoutOrWithAnError();
        term2LastOneOnceAYear();
        term2NamesOfLoosen();
        term2NamesOfMay();
        promise21NoSuchOnes();
        promise21FiftyAtLeast();
        promise21WithoutNumbers();
        promise21Answers();
        promise21NothingChanges();
        promise28NoSuchOnes();
        promise28LeastTerms();
        promise34NoSuchOnes();
        promise34OfTen();
        promise35NoSuchOnes();
        promise35NothingSlips();
        promise35HasLetGo();
        promise35AllMay();
        promise35Turned();
        promise35NothingChanges();
        Check.finish("EdgesOfYearsTests");
    }

    private static int[] counts(MaypoleRegister x) {
        int[] counts = new int[14];
        for (int what = 0; what < counts.length; what++) {
            counts[what] = x.count(what);
        }
        return counts;
    }

    private static void dueCounts(String call, MaypoleRegister x, int[] want) {
        for (int what = 0; what < want.length; what++) {
            Check.due(call + ": count " + what, x.count(what), want[what]);
        }
    }

    // NONE, and none does: no such number
    private static void promise20NoSuchNumber() {
        MaypoleRegister x = Check.with(TWO + "over 0 0;over 98 0;over 99 0;");
        Check.cross(x, 1);
        int[] counts = counts(x);
        for (int n : NO_NUMBERS) {
            Check.due("go " + n, x.go(n), Check.NONE);
        }
        Check.due("go 100", x.go(100), Check.NONE);
        dueCounts("none goes by", x, counts);
        Check.due("go 0", x.go(0), 0);
        dueCounts("0 go by", x, counts);
        Check.due("go 99", x.go(99), 99);
        Check.due("danced in the years 0 and 98", x.count(5), 3);
        Check.due("go 0", x.go(0), 99);
        Check.due("go 1", x.go(1), 100);
        Check.due("danced in the year 99", x.count(5), 4);
    }

    // behind 9900
    private static void promise20NotBehind9900() {
        MaypoleRegister x = Check.with(TWO + "slip 0;");
        for (int i = 1; i <= 99; i++) {
            Check.due("99 years", x.go(99), 99 * i);
        }
        Check.due("9801", x.count(4), 9801);
        Check.due("one year", x.go(1), 9802);
        Check.cross(x, 0);
        Check.due("9901", x.go(99), Check.NONE);
        Check.due("none goes by", x.count(4), 9802);
        Check.due("can be undone still", x.count(13), 1);
        Check.due("9900", x.go(98), 9900);
        Check.due("behind 9900", x.go(1), Check.NONE);
        Check.due("99 behind 9900", x.go(99), Check.NONE);
        Check.due("none", x.go(0), 9900);
        Check.due("9900 still", x.count(4), 9900);
        Check.due("crossing in 9900", x.cross(0, true), 2);
        Check.due("ahead of 9900", x.ahead(99, 0), 2);
        Check.due("tried in 9900", x.tried(0, 0, 99), 2);
        Check.due("keep in 9900", x.keep(), 9900);
        Check.due("back in 9900", x.back(), 9900);
    }

    // a YEAR 0 .. 99
    private static void promise20FirstAndLastYearTold() {
        MaypoleRegister x = Check.with(TWO + "under 99 0;over 0 0;");
        Check.due("year 0", x.go(1), 1);
        Check.duePlait("over of year 0", x, 0);
        Check.due("up to 99", x.go(98), 99);
        Check.duePlait("nothing", x, 0);
        Check.due("year 99", x.go(1), 100);
        Check.duePlait("under of year 99", x, 0, 1);
        Check.due("100 more", x.go(99), 199);
        Check.duePlait("no year comes again", x, 0, 1);
    }

    // (1) what was told of this YEAR, by numbers; All numbered as they come (over and under together)
    private static void term2ByNumbers() {
        MaypoleRegister x = Check.with(Check.dancers(6) + "over 1 4;under 0 3;over 0 0;under 1 2;over 0 2;under 0 0;over 1 1;");
        x.go(1);
        Check.duePlait("year 0", x, 7, 0, 4, 1);
        x.go(1);
        Check.duePlait("year 1", x, 7, 0, 4, 1, 8, 5, 2);
        x = Check.with(TWO + Check.times("over 3 0;under 3 0;", 12));
        x.go(3);
        Check.due("none ahead", x.count(5), 0);
        x.go(1);
        Check.due("24 in one year", x.count(5), 24);
        Check.due("vows", x.count(6), 24);
        Check.due("nobody is bound", x.count(9), 0);
    }

    // if there is such a PLACE (who is LEFT stands at it and at the next one) .. else it is REFUSED
    private static void term2NoSuchPlace() {
        String text = "over 0 0;over 0 1;over 0 2;over 0 3;over 0 4;";
        for (int dancers = 0; dancers <= 6; dancers++) {
            MaypoleRegister x = Check.with(Check.dancers(dancers) + text);
            int places = Math.max(0, dancers - 1);
            x.go(1);
            Check.due("danced by " + dancers, x.count(5), places);
            Check.due("refused by " + dancers, x.count(7), 5 - places);
            Check.due("vows of " + dancers, x.count(6), places);
            x = Check.with(Check.dancers(dancers) + text);
            x.letGo(0);
            x.go(1);
            places = Math.max(0, dancers - 2);
            Check.due("danced by one less than " + dancers, x.count(5), places);
            Check.due("refused by one less than " + dancers, x.count(7), 5 - places);
        }
    }

    // the PLAIT has less than 48
    private static void term2LessThan48() {
        MaypoleRegister x = Check.with(TWO + "over 0 0;over 0 0;under 0 0;law vow 5;");
        x.feast(0, 20);
        x.feast(0, 20);
        x.feast(0, 6);
        Check.due("two more there", x.ahead(1, 0), 48);
        Check.due("one refused there", x.ahead(1, 2), 1);
        x.go(1);
        Check.due("48", x.count(5), 48);
        Check.due("one refused", x.count(7), 1);
        Check.due("vows of two", x.count(6), 10);
        Check.due("the last one", Check.code(x, 47), 0);
        x = Check.with(TWO + "over 0 0;over 1 0;slip 100;");
        x.feast(0, 20);
        x.feast(0, 20);
        x.feast(0, 8);
        x.go(1);
        Check.due("refused, then one slips", x.count(5), 47);
        Check.due("refused", x.count(7), 1);
        x.go(1);
        Check.due("danced, then it slips", x.count(5), 47);
        Check.due("refused so far", x.count(7), 1);
        Check.due("slipped so far", x.count(8), 2);
    }

    // E of may isn't 0 (1 without, with an ERROR)
    private static void term2MayIsNotNothing() {
        String[] mays = {"0", "1", "0-1", "1/0", "9999*9999*9999*9999", "1/2", "year", "1-year", "many"};
        int[] danced = {0, 2, 2, 2, 2, 0, 1, 1, 0};
        for (int i = 0; i < mays.length; i++) {
            MaypoleRegister x = Check.with(TWO + "over 0 0;over 1 0;law may " + mays[i] + ";");
            x.go(2);
            Check.due("danced by may " + mays[i], x.count(5), danced[i]);
            Check.due("refused by may " + mays[i], x.count(7), 2 - danced[i]);
            Check.due("vows by may " + mays[i], x.count(6), danced[i]);
        }
    }

    // VOWS are more by E of vow (put to -99 .. 99; 1 without, with an ERROR; both E ahead of it)
    private static void term2VowsOfYears() {
        String[] vows = {"99", "100", "0-99", "0-100", "0", "1/0", "many", "bond", "year*50", "60+100*many"};
        int[] wants = {198, 198, -198, -198, 0, 2, 1, 1, 50, 159};
        for (int i = 0; i < vows.length; i++) {
            MaypoleRegister x = Check.with(TWO + "over 0 0;over 1 0;law vow " + vows[i] + ";");
            x.go(2);
            Check.due("vows by " + vows[i], x.count(6), wants[i]);
            Check.due("vows ahead by " + vows[i], Check.with(TWO + "over 0 0;over 1 0;law vow " + vows[i] + ";").ahead(2, 1), wants[i]);
        }
    }

    /** A register in whose plait a crossing is that may slip in the year 0. */
    private static MaypoleRegister withOne(String text) {
        MaypoleRegister x = Check.with(TWO + text);
        Check.cross(x, 0);
        return x;
    }

    private static void dueSlips(String text, int want) {
        MaypoleRegister x = withOne(text);
        x.go(1);
        Check.due("slipped by " + text, x.count(8), want);
        Check.due("crossings by " + text, x.count(5), 1 - want);
        Check.due("vows by " + text, x.count(6), 1);
    }

    // E of loosen (0 .. 100; slip without ..)
    private static void term2EndsOfOdds() {
        int[] seeds = {0, 58, 194, 99999};
        for (int seed : seeds) {
            String start = "seed " + seed + ";";
            dueSlips(start, 0);
            dueSlips(start + "slip 0;", 0);
            dueSlips(start + "slip 100;", 1);
            dueSlips(start + "law loosen 0;", 0);
            dueSlips(start + "law loosen 0-1;", 0);
            dueSlips(start + "law loosen 0-9999*9999*9999;", 0);
            dueSlips(start + "law loosen 100;", 1);
            dueSlips(start + "law loosen 101;", 1);
            dueSlips(start + "law loosen 9999*9999*9999;", 1);
        }
    }

    // a number modulo 100 .. below E of loosen
    private static void term2NumberBelowOdds() {
        // the first numbers modulo 100: 0 from the seed 0, 49 from 58, 99 from 194, 16 from 99999
        int[][] firsts = {{0, 0}, {58, 49}, {194, 99}, {99999, 16}};
        for (int[] first : firsts) {
            for (int odds = 1; odds <= 99; odds++) {
                dueSlips("seed " + first[0] + ";slip " + odds + ";", first[1] < odds ? 1 : 0);
            }
            dueSlips("seed " + first[0] + ";slip 0;law loosen " + first[1] + ";", 0);
            dueSlips("seed " + first[0] + ";slip 0;law loosen " + (first[1] + 1) + ";", 1);
        }
        // without a seed it is 0
        dueSlips("slip 1;", 1);
    }

    // (no number, if E is 0 or 100)
    private static void term2NoNumber() {
        String[] spared = {"0", "100", "0-7", "107"};
        for (String odds : spared) {
            // the seed 58 gives 49 first, 27 then: the odds of the year 1 tell which of both is taken
            for (int last = 48; last <= 50; last++) {
                MaypoleRegister x = Check.with(TWO + "over 1 0;seed 58;law loosen (year=0)*(" + odds + ")+(year=1)*" + last + ";");
                Check.cross(x, 0, 0);
                x.go(1);
                int slipped = x.count(8);
                Check.due("slipped by " + odds, slipped, odds.equals("100") || odds.equals("107") ? 1 : 0);
                x.go(1);
                Check.due("49 is the first number behind " + odds, x.count(8) - slipped, last == 50 ? 1 : 0);
            }
        }
        MaypoleRegister x = Check.with(TWO + "seed 58;law loosen (year=0)+(year=1)*49;");
        Check.cross(x, 0, 0);
        x.go(2);
        Check.due("odds of 1 take a number: 27 is the second one", x.count(8), 1);
        x = Check.with(TWO + "seed 58;law loosen (year=0)*99+(year=1)*27;");
        Check.cross(x, 0, 0);
        x.go(2);
        Check.due("odds of 99 take one: 27 isn't below 27", x.count(8), 1);
    }

    // (2) if the PLAIT has a CROSSING
    private static void term2NoCrossingNoNumber() {
        for (int last = 49; last <= 50; last++) {
            MaypoleRegister x = Check.with(TWO + "seed 58;slip " + last + ";");
            x.go(7);
            Check.due("none slipped", x.count(8), 0);
            Check.cross(x, 0);
            x.go(1);
            Check.due("the first number is 49", x.count(8), last - 49);
        }
        MaypoleRegister x = Check.with(TWO + "slip 100;");
        x.go(5);
        Check.due("nothing to slip", x.count(8), 0);
    }

    // Numbers are the last one (at first the seed) times 1103515245 and 12345, without what is above 31 bits, by 65536
    private static void term2NumbersGoOn() {
        int[] numbers = {16, 81, 64, 9, 83, 35, 1, 95, 35, 21, 25, 86, 3, 45, 49, 87, 99, 96, 99, 1};
        for (int odds = 10; odds <= 90; odds += 20) {
            MaypoleRegister x = Check.with(TWO + "seed 99999;slip " + odds + ";");
            x.feast(1, 20);
            int slipped = 0;
            for (int number : numbers) {
                slipped += number < odds ? 1 : 0;
                x.go(1);
                Check.due("slipped by odds of " + odds, x.count(8), slipped);
            }
            x.text(0);
        }
        // feasts by call and by chance leave the numbers of the years
        MaypoleRegister x = Check.with(TWO + "seed 58;slip 49;");
        x.feast(0, 3);
        x.chance(0, 5);
        x.ahead(5, 0);
        x.tried(0, 0, 5);
        x.go(1);
        Check.due("49 isn't below 49", x.count(8), 0);
        x.go(1);
        Check.due("27 is", x.count(8), 1);
    }

    // slip without, with an ERROR
    private static void term2SlipWithoutOrWithAnError() {
        dueSlips("slip 100;", 1);
        dueSlips("slip 100;law loosen 1/0;", 1);
        dueSlips("slip 0;law loosen 1/0;", 0);
        dueSlips("law loosen 1/0;", 0);
        dueSlips("slip 100;law loosen 9999*9999*9999*9999;", 1);
        dueSlips("slip 0;law loosen 9999*9999*9999*9999;", 0);
        dueSlips("slip 100;law loosen 0;", 0);
        dueSlips("slip 0;law loosen 100;", 1);
        dueSlips("seed 58;slip 50;law loosen 1/(many-1);", 1);
        dueSlips("seed 58;slip 49;law loosen 1/(many-1);", 0);
    }

    // the last one is taken out: it SLIPPED
    private static void term2LastOneOnceAYear() {
        MaypoleRegister x = Check.with(THREE + "over 2 0;over 2 1;slip 100;");
        Check.cross(x, 0, 3, 2);
        x.go(1);
        Check.duePlait("the last one", x, 0, 3);
        x.go(1);
        Check.duePlait("the next one", x, 0);
        x.go(1);
        Check.duePlait("two danced, one slips", x, 0, 0);
        Check.due("slipped so far", x.count(8), 3);
        x.go(9);
        Check.due("none is left", x.count(5), 0);
        Check.due("slipped so far", x.count(8), 5);
        Check.due("vows stay", x.count(6), 5);
        Check.due("home", x.isHome(), true);
    }

    // of loosen of the last one: .. bond: BOND of both in the PLAIT as it is; many: how many CROSSINGS it has
    private static void term2NamesOfLoosen() {
        String law = "law loosen above*1000+below*100+place*10+many;law vow bond;";
        MaypoleRegister x = Check.with(THREE + law);
        Check.cross(x, 3);
        Check.due("c over b at 1", x.law(2, 0), 2111);
        Check.cross(x, 0);
        Check.due("a over c at 0", x.law(2, 0), 202);
        Check.cross(x, 1);
        Check.due("a over c at 0, under", x.law(2, 0), 203);
        x = Check.with(THREE + "law loosen bond*100+left*10+year;");
        Check.cross(x, 0);
        Check.due("bond with the last one", x.law(2, 0), 130);
        Check.cross(x, 0);
        Check.due("bond of two", x.law(2, 0), 230);
        Check.cross(x, 1, 1, 1);
        Check.due("bond below 0", x.law(2, 0), -70);
        x.letGo(2);
        Check.due("two are left", x.law(2, 0), -80);
        x = Check.with(THREE + "law loosen 0-left*10-year;");
        Check.cross(x, 0);
        x.go(7);
        Check.due("year 7", x.law(2, 0), -37);
        // in the year 3 the YEAR is 3 still when it slips
        x = Check.with(TWO + "over 3 0;law loosen 100*(year=3);");
        x.go(4);
        Check.due("slipped in its year", x.count(8), 1);
    }

    // NAMES, of a CROSSING to be danced
    private static void term2NamesOfMay() {
        MaypoleRegister x = Check.with(Check.dancers(6) + "law may above*10*1000+below*1000+place*100+left*10+many;law vow bond*1000+year;");
        Check.due("a over b", x.law(0, 0), 1060);
        Check.due("b over a", x.law(0, 1), 10060);
        Check.due("e over f", x.law(0, 8), 45460);
        Check.due("f over e", x.law(0, 9), 54460);
        Check.cross(x, 9);
        Check.due("f over e from the left", x.law(0, 8), 54461);
        Check.due("e over f from the right", x.law(0, 9), 45461);
        Check.due("bond as it is", x.law(1, 8), -1000);
        x.go(5);
        Check.due("year 5", x.law(1, 9), -995);
        x.letGo(0);
        Check.due("five are left", x.law(0, 7), 45351);
    }

    // AHEAD (n 0 .. 99), what 0 .. 4. Integer.MIN_VALUE: no such ones.
    private static void promise21NoSuchOnes() {
        MaypoleRegister x = Check.with(TWO + "over 0 0;over 98 0;over 99 0;");
        for (int number : NO_NUMBERS) {
            Check.due("n " + number, x.ahead(number, 0), Integer.MIN_VALUE);
            Check.due("what " + number, x.ahead(0, number), Integer.MIN_VALUE);
        }
        Check.due("n 100", x.ahead(100, 0), Integer.MIN_VALUE);
        Check.due("what 5", x.ahead(0, 5), Integer.MIN_VALUE);
        Check.due("both", x.ahead(100, 5), Integer.MIN_VALUE);
        Check.due("n 0", x.ahead(0, 0), 0);
        Check.due("n 1", x.ahead(1, 0), 1);
        Check.due("n 98", x.ahead(98, 0), 1);
        Check.due("n 99", x.ahead(99, 0), 2);
        x.go(1);
        Check.due("n 98 from year 1", x.ahead(98, 0), 2);
        Check.due("n 99 from year 1", x.ahead(99, 0), 3);
    }

    // it SLIPS, if E of loosen is 50 at least
    private static void promise21FiftyAtLeast() {
        String[] odds = {"slip 49;", "slip 50;", "slip 51;", "slip 100;", "", "law loosen 49;", "law loosen 50;",
            "law loosen 0-50;", "law loosen 101;", "slip 50;law loosen 1/0;", "slip 49;law loosen 1/0;", "slip 100;law loosen 0;"};
        int[] wants = {1, 0, 0, 0, 1, 1, 0, 1, 0, 0, 1, 1};
        int[] seeds = {0, 58, 194};
        for (int i = 0; i < odds.length; i++) {
            for (int seed : seeds) {
                MaypoleRegister x = withOne("seed " + seed + ";" + odds[i]);
                Check.due("ahead by " + odds[i], x.ahead(1, 0), wants[i]);
                Check.due("tried by " + odds[i], x.tried(0, 0, 1), wants[i]);
                Check.due("ahead 0 by " + odds[i], x.ahead(0, 0), 1);
            }
        }
    }

    // AS IT GOES: without numbers
    private static void promise21WithoutNumbers() {
        MaypoleRegister x = withOne("seed 58;slip 49;");
        for (int n = 0; n <= 99; n += 9) {
            Check.due("ahead " + n, x.ahead(n, 0), 1);
            Check.due("tried " + n, x.tried(1, 0, n), 1);
        }
        x.go(1);
        Check.due("49 is the first number still", x.count(8), 0);
        x.go(1);
        Check.due("27 the second", x.count(8), 1);
    }

    private static void dueAhead(MaypoleRegister x, int n, int... want) {
        for (int what = 0; what < want.length; what++) {
            Check.due("ahead " + n + " what " + what, x.ahead(n, what), want[what]);
        }
    }

    // CROSSINGS then, VOWS then, REFUSED more, how many pairs are BOUND then, whether HOME then (1, 0)
    private static void promise21Answers() {
        MaypoleRegister x = Check.with(THREE + "over 0 0;over 0 2;under 1 0;over 1 2;over 2 1;over 3 1;law vow 7;");
        dueAhead(x, 0, 0, 0, 0, 0, 1);
        dueAhead(x, 1, 1, 7, 1, 1, 0);
        dueAhead(x, 2, 2, 14, 2, 0, 1);
        dueAhead(x, 3, 3, 21, 2, 1, 0);
        dueAhead(x, 4, 4, 28, 2, 1, 1);
        dueAhead(x, 99, 4, 28, 2, 1, 1);
        x.go(1);
        Check.due("refused so far", x.count(7), 1);
        dueAhead(x, 0, 1, 7, 0, 1, 0);
        dueAhead(x, 1, 2, 14, 1, 0, 1);
        dueAhead(x, 99, 4, 28, 1, 1, 1);
        x.letGo(2);
        dueAhead(x, 99, 2, 14, 3, 0, 1);
        x = Check.with(TWO + "law vow 0-3;over 0 0;");
        Check.cross(x, 1);
        dueAhead(x, 1, 2, -6, 0, 0, 1);
    }

    private static void promise21NothingChanges() {
        MaypoleRegister x = Check.with(THREE + "over 0 0;over 0 1;over 1 4;slip 50;law vow many+2;");
        Check.cross(x, 0, 3);
        x.keep();
        Check.cross(x, 1);
        int[] counts = counts(x);
        for (int n = 0; n <= 99; n += 33) {
            for (int what = 0; what <= 4; what++) {
                x.ahead(n, what);
            }
        }
        dueCounts("ahead changes nothing", x, counts);
        Check.duePlait("the plait stays", x, 0, 3, 1);
        Check.due("undo", x.undo(), 2);
        Check.due("alike to the image", x.alike(), 1);
    }

    // HOLDS (n 0 .. 6) .. what 0 .. 1. NONE: no such ones.
    private static void promise28NoSuchOnes() {
        MaypoleRegister x = Check.with(TWO + "slip 60;");
        for (int number : NO_NUMBERS) {
            Check.due("n " + number, x.holds(number, 0), Check.NONE);
            Check.due("what " + number, x.holds(1, number), Check.NONE);
        }
        Check.due("n 7", x.holds(7, 0), Check.NONE);
        Check.due("what 2", x.holds(0, 2), Check.NONE);
        Check.due("n 6", x.holds(6, 0), 64);
        Check.due("n 6 below", x.holds(6, 1), 15625);
        Check.due("n 0", x.holds(0, 0), 1);
        Check.due("n 0 below", x.holds(0, 1), 1);
    }

    // in least terms, what 0: the number above, 1: the one below
    private static void promise28LeastTerms() {
        int[] slips = {0, 1, 20, 49, 50, 75, 80, 99, 100};
        long[][] ones = {{1, 1}, {99, 100}, {4, 5}, {51, 100}, {1, 2}, {1, 4}, {1, 5}, {1, 100}, {0, 1}};
        for (int i = 0; i < slips.length; i++) {
            MaypoleRegister x = withOne("slip " + slips[i] + ";law loosen 37;");
            long above = 1;
            long below = 1;
            for (int n = 0; n <= 6; n++) {
                Check.due("above of slip " + slips[i] + " n " + n, x.holds(n, 0), above);
                Check.due("below of slip " + slips[i] + " n " + n, x.holds(n, 1), below);
                above *= ones[i][0];
                below *= ones[i][1];
            }
            Check.due("no year went by", x.count(4), 0);
        }
        MaypoleRegister x = Check.with("slip 1;");
        Check.due("99 to the 6", x.holds(6, 0), 941480149401L);
        Check.due("100 to the 6", x.holds(6, 1), 1000000000000L);
        x = Check.with(TWO);
        Check.due("without slip", x.holds(6, 0), 1);
        Check.due("without slip", x.holds(6, 1), 1);
    }

    // n 1 .. 48 (numbers from a seed 0 .. 2147483647 on ..) .. NONE: no such ones, less than two are LEFT
    private static void promise34NoSuchOnes() {
        MaypoleRegister x = Check.withDancers(3);
        for (int number : NO_NUMBERS) {
            Check.due("n " + number, x.chance(0, number), Check.NONE);
            if (number < 0) {
                Check.due("seed " + number, x.chance(number, 1), Check.NONE);
            }
        }
        Check.due("n 0", x.chance(0, 0), Check.NONE);
        Check.due("n 49", x.chance(0, 49), Check.NONE);
        Check.due("n 1", x.chance(0, 1), 0);
        Check.due("n 48", x.chance(0, 48), 4);
        Check.due("the greatest seed", x.chance(2147483647, 48), 3);
        x.letGo(1);
        Check.due("two are left", x.chance(0, 48), 10);
        x.letGo(2);
        Check.due("one is left", x.chance(0, 48), Check.NONE);
        x.letGo(0);
        Check.due("nobody is left", x.chance(0, 48), Check.NONE);
        Check.due("one told", Check.withDancers(1).chance(0, 1), Check.NONE);
    }

    // In how many of ten FEASTS .. one FEAST behind another), danced from nothing by those who are LEFT, all are HOME
    private static void promise34OfTen() {
        int[] rows = {1, 2, 4, 6, 47, 48};
        int[][] wants = {
            {2, 0, 0, 10, 10, 10, 0, 10}, {2, 2147483647, 0, 10, 10, 10, 0, 10},
            {3, 0, 0, 10, 8, 6, 0, 4}, {3, 1, 0, 4, 3, 2, 0, 4}, {3, 2147483647, 0, 4, 4, 2, 0, 3},
            {4, 0, 0, 5, 2, 2, 0, 1}, {4, 1, 0, 4, 3, 2, 0, 1}, {4, 2147483647, 0, 2, 0, 1, 0, 3},
            {6, 0, 0, 1, 1, 0, 0, 0}, {6, 1, 0, 2, 0, 0, 0, 0}, {6, 2147483647, 0, 3, 0, 1, 0, 0}};
        for (int[] want : wants) {
            MaypoleRegister x = Check.withDancers(want[0]);
            Check.cross(x, 0);
            for (int i = 0; i < rows.length; i++) {
                Check.due("chance " + want[1] + " " + rows[i] + " of " + want[0], x.chance(want[1], rows[i]), want[2 + i]);
            }
            Check.duePlait("the plait stays", x, 0);
            Check.due("one can be undone", x.count(13), 1);
        }
        MaypoleRegister x = Check.with("dancer a;dancer b;dancer c;law may 0;law loosen 100;");
        Check.due("whatever the laws", x.chance(0, 2), 10);
        x = Check.withDancers(6);
        x.letGo(5);
        x.letGo(0);
        x.letGo(3);
        Check.due("of three who are left", x.chance(0, 4), 8);
    }

    // NONE: no such ones (i 0 of all but 2; of 2 one who is LEFT).
    private static void promise35NoSuchOnes() {
        MaypoleRegister x = Check.with(THREE + "over 0 0;over 98 0;over 99 0;");
        for (int what = 0; what <= 4; what++) {
            Check.due("n 100", x.tried(what, 0, 100), Check.NONE);
            Check.due("n 0", x.tried(what, 0, 0), 0);
            Check.due("n 1", x.tried(what, 0, 1), 1);
            Check.due("n 99", x.tried(what, 0, 99), 2);
            for (int number : NO_NUMBERS) {
                Check.due("n " + number, x.tried(what, 0, number), Check.NONE);
                Check.due("i " + number, x.tried(what, number, 0), Check.NONE);
                Check.due("what " + number, x.tried(number, 0, 0), Check.NONE);
            }
            Check.due("i 1", x.tried(what, 1, 0), what == 2 ? 0 : Check.NONE);
            Check.due("i 2", x.tried(what, 2, 0), what == 2 ? 0 : Check.NONE);
            Check.due("i 3", x.tried(what, 3, 0), Check.NONE);
        }
        Check.due("what 5", x.tried(5, 0, 0), Check.NONE);
        x.letGo(1);
        Check.due("i isn't left", x.tried(2, 1, 0), Check.NONE);
        Check.due("i is left", x.tried(2, 2, 0), 0);
        x.letGo(0);
        Check.due("0 isn't left", x.tried(2, 0, 0), Check.NONE);
        Check.due("0 isn't looked at", x.tried(0, 0, 1), 0);
    }

    // 0 as it goes, 1 nothing SLIPS
    private static void promise35NothingSlips() {
        String[] odds = {"slip 100;", "slip 50;", "law loosen 100;", "slip 100;law loosen 1/0;", "law loosen 50+many;"};
        for (String odd : odds) {
            MaypoleRegister x = Check.with(TWO + "over 0 0;over 0 0;over 1 0;over 3 0;" + odd);
            Check.due("as it goes, 1 year", x.tried(0, 0, 1), 1);
            Check.due("as it goes, 2 years", x.tried(0, 0, 2), 1);
            Check.due("as it goes, 3 years", x.tried(0, 0, 3), 0);
            Check.due("as it goes, 99 years", x.tried(0, 0, 99), 0);
            Check.due("nothing slips, no year", x.tried(1, 0, 0), 0);
            Check.due("nothing slips, 1 year", x.tried(1, 0, 1), 2);
            Check.due("nothing slips, 3 years", x.tried(1, 0, 3), 3);
            Check.due("nothing slips, 99 years", x.tried(1, 0, 99), 4);
            Check.due("as it goes again", x.ahead(3, 0), 0);
        }
    }

    // 2 DANCER i has let go now
    private static void promise35HasLetGo() {
        MaypoleRegister x = Check.with(THREE + "over 0 1;over 1 0;law may left>1;");
        Check.cross(x, 0, 2);
        Check.due("as it goes", x.tried(0, 0, 2), 4);
        Check.due("a lets go", x.tried(2, 0, 0), 0);
        Check.due("b lets go", x.tried(2, 1, 0), 1);
        Check.due("c lets go", x.tried(2, 2, 0), 1);
        Check.due("a lets go, no place 1", x.tried(2, 0, 1), 0);
        Check.due("a lets go, 2 years", x.tried(2, 0, 2), 1);
        Check.due("c lets go, 2 years", x.tried(2, 2, 2), 2);
        x = Check.with(TWO + "over 0 0;");
        Check.cross(x, 0);
        Check.due("one alone", x.tried(2, 1, 5), 0);
        Check.due("both are left", x.count(1), 2);
    }

    // 3 all may
    private static void promise35AllMay() {
        MaypoleRegister x = Check.with(TWO + "over 0 0;over 0 1;over 1 0;slip 49;law may 0;");
        Check.due("as it goes", x.tried(0, 0, 2), 0);
        Check.due("all may, but there must be such a place", x.tried(3, 0, 1), 1);
        Check.due("all may, 2 years", x.tried(3, 0, 2), 2);
        Check.due("as it goes again", x.ahead(2, 0), 0);
        x = Check.with(TWO + "over 0 0;over 1 0;slip 50;law may 0;");
        Check.due("all may, it slips", x.tried(3, 0, 1), 0);
        x = Check.with(TWO + "over 0 0;over 0 0;");
        x.feast(0, 20);
        x.feast(0, 20);
        x.feast(0, 7);
        Check.due("all may, but not beyond 48", x.tried(3, 0, 1), 48);
    }

    // 4 what was told as over is under, and the other way round
    private static void promise35Turned() {
        MaypoleRegister x = Check.with(THREE + "over 0 0;under 1 1;law may above<below;");
        // as it goes a over b; then c over a is refused. Turned b over a is refused; then b over c
        Check.due("as it goes, 1 year", x.tried(0, 0, 1), 1);
        Check.due("as it goes, 2 years", x.tried(0, 0, 2), 1);
        Check.due("turned, 1 year", x.tried(4, 0, 1), 0);
        Check.due("turned, 2 years", x.tried(4, 0, 2), 1);
        Check.due("as it goes again", x.tried(0, 0, 1), 1);
        Check.cross(x, 0);
        // what is danced stays as it is: b stands at 0, and turned a passes over b from the right
        Check.due("turned behind a crossing", x.tried(4, 0, 1), 2);
        Check.due("as it goes behind a crossing", x.tried(0, 0, 1), 1);
        x = Check.with(TWO + "over 0 0;law loosen 50+50*bond;");
        Check.due("bond 1 slips", x.tried(0, 0, 1), 0);
        Check.due("bond -1 doesn't", x.tried(4, 0, 1), 1);
        x = Check.with(TWO + "under 0 0;law loosen 50+50*bond;");
        Check.due("under, bond -1 doesn't", x.tried(0, 0, 1), 1);
        Check.due("under turned, bond 1 slips", x.tried(4, 0, 1), 0);
    }

    private static void promise35NothingChanges() {
        MaypoleRegister x = Check.with(THREE + "over 0 0;under 0 1;over 1 4;slip 50;law vow many+2;");
        Check.cross(x, 0, 3);
        x.keep();
        Check.cross(x, 1);
        int[] counts = counts(x);
        for (int what = 0; what <= 4; what++) {
            x.tried(what, 0, 99);
        }
        x.tried(2, 2, 99);
        dueCounts("tried changes nothing", x, counts);
        Check.duePlait("the plait stays", x, 0, 3, 1);
        Check.due("undo", x.undo(), 2);
        Check.due("alike to the image", x.alike(), 1);
    }
}
