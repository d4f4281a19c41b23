/** The edges that the document names in term 1 and in promises 1 to 5, 13 and 39: a test for each sentence. */
public final class EdgesOfTextTests {
    private static final String[] LANGUAGE = {"dancer", "over", "under", "slip", "seed", "law", "may", "vow", "loosen",
        "or", "and", "not", "above", "below", "place", "bond", "many", "left", "year"};
    private static final String[] NAMES = {"above", "below", "place", "bond", "many", "left", "year"};
    private static final String[] SIGNS = {"+", "-", "*", "/", "<", "<=", "=", "<>", ">=", ">", " and ", " or "};
    private static final int[] NO_NUMBERS = {-1, -2, Integer.MIN_VALUE, Integer.MIN_VALUE + 1, Integer.MAX_VALUE};

    public static void main(String[] args) {
        promise1IsWithoutLines();
        promise1AnswersOfNobody();
        promise1HasAnEmptyTape();
        promise2IsHowMany();
        promise2NoneComeBeyond700();
        promise2HighestByteFirst();
        promise2BehindTheTape();
        promise3FirstBytes();
        promise3FullTape();
        promise3NotSoMany();
        promise3TapeIsEmptyThen();
        promise3Lines();
        promise3AllIsAsAtFirst();
        promise3AllElseStays();
        promise3NothingOfAnotherText();
        promise3NothingOfAFaultyText();
        promise4LatestText();
        promise4NoOtherWhat();
        term1Blanks();
        term1Words();
        term1Names();
        term1Numbers();
        term1SignsOfTwo();
        term1CantStandThere();
        term1MoreMustCome();
        term1GrammarOfE();
        term1TooManyLines();
        term1OpenOnes();
        term1Knots();
        term1KnotsOfEachKind();
        term1ToldAlready();
        term1FirstAlongTheText();
        term1LeastOfOnePlace();
        promise5Letters();
        promise5NoSuchName();
        promise13NoSuch();
        promise13EndsOfValues();
        promise13BothSides();
        promise13WhatBindsCloser();
        promise13EachLawAlone();
        promise13CutTowardsNothing();
        promise13NoLawNoCrossing();
        promise39NoOtherWhat();
        promise39EndsOfCounts();
        Check.finish("EdgesOfTextTests");
    }

    private static int lineEnds(String text) {
        int lines = 0;
        for (int i = 0; i < text.length(); i++) {
            lines += text.charAt(i) == ';' ? 1 : 0;
        }
        return lines;
    }

    private static MaypoleRegister stands(String text) {
        return Check.dueNoFault(text, lineEnds(text));
    }

    // A TEXT without LINES; an empty TAPE.
    private static void promise1IsWithoutLines() {
        MaypoleRegister used = Check.with("dancer a;dancer b;over 0 0;slip 9;seed 3;law may 1;");
        Check.cross(used, 0);
        MaypoleRegister x = new MaypoleRegister();
        for (int what = 0; what <= 13; what++) {
            Check.due("count " + what + " of a new one", x.count(what), 0);
        }
        Check.due("fault", x.fault(0), 0);
        Check.due("place of the fault", x.fault(1), Check.NONE);
        Check.due("a name of another register", x.named(1 << 25), Check.NONE);
        Check.due("no law", x.law(0, 0), Check.NO_LAW);
        Check.due("no image", x.alike(), -2);
        Check.due("back", x.back(), Check.NONE);
        Check.due("undo", x.undo(), Check.NONE);
        Check.due("holds without slip", x.holds(6, 0) * 10 + x.holds(6, 1), 11);
        Check.due("keep", x.keep(), 0);
        Check.due("alike to itself", x.alike(), 1);
        Check.due("back to it", x.back(), 0);
    }

    private static void promise1AnswersOfNobody() {
        MaypoleRegister x = new MaypoleRegister();
        Check.due("dancer", Check.thrown(x, 0, 0), 1);
        Check.due("crossing", x.crossing(0, 0), Check.NONE);
        Check.due("bond", x.bond(0, 1), Check.NO_BOND);
        Check.due("at", x.at(0, 0), Check.NONE);
        Check.due("home", x.isHome(), true);
        Check.due("loose", x.isLoose(), true);
        Check.due("cross", x.cross(0, true), Check.NONE);
        Check.due("letGo", x.letGo(0), Check.NONE);
        Check.due("swap", x.swap(0), false);
        Check.due("cancel", x.cancel(0), false);
        Check.due("slide", x.slide(0), false);
        Check.due("feast", x.feast(0, 1), Check.NONE);
        Check.due("lean", x.lean(), 0);
        Check.due("back", x.danceBack(0), 0);
        Check.due("code of back", x.danceBack(1), -2);
        Check.due("make", x.make(0, 0), 0);
        Check.due("code of make", x.make(0, 1), -2);
        Check.due("make of a pair", x.make(1, 0), Check.NONE);
        Check.due("the row without crossings", x.looseRows(0), 1);
        Check.due("rows of 1", x.looseRows(1), 0);
        Check.due("rows of 4", x.looseRows(4), 0);
        Check.due("tied", x.tied(0, 1, 2), Check.NONE);
        Check.due("freed", x.freed(0), Check.NONE);
        Check.due("read", x.read(0, 0, 0, true), Check.NONE);
        Check.due("readBond", x.readBond(0, 1, 0, true), Check.NONE);
        Check.due("strike", x.strike(0), Check.NONE);
        Check.due("fits", x.fits(0), Check.NONE);
        Check.due("chance", x.chance(0, 1), Check.NONE);
        Check.due("tried", x.tried(0, 0, 99), 0);
        Check.due("tried without one", x.tried(2, 0, 0), Check.NONE);
        Check.due("crossings ahead", x.ahead(99, 0), 0);
        Check.due("home ahead", x.ahead(99, 4), 1);
        Check.due("years go by", x.go(99), 99);
    }

    private static void promise1HasAnEmptyTape() {
        MaypoleRegister x = new MaypoleRegister();
        Check.due("not one byte", x.text(1), -2);
        Check.due("none", x.text(0), 0);
        Check.due("the first twenty", x.feed(0, 0, 0, 0, 0), 20);
    }

    // .. how many it has; NONE, and none come, if it would have more than 700.
    private static void promise2IsHowMany() {
        MaypoleRegister x = new MaypoleRegister();
        for (int i = 1; i <= 35; i++) {
            Check.due("feed " + i, x.feed(-1, 0, 1, Integer.MIN_VALUE, Integer.MAX_VALUE), 20 * i);
        }
        Check.due("720", x.feed(0, 0, 0, 0, 0), Check.NONE);
        Check.due("720 again", x.feed(0, 0, 0, 0, 0), Check.NONE);
    }

    private static void promise2NoneComeBeyond700() {
        MaypoleRegister x = new MaypoleRegister();
        Check.feed(x, "dancer e;" + Check.times(" ", 671) + "dancer a;dancer b;  ");
        Check.feed(x, "dancer c;dancer d;!!");
        Check.due("701 bytes", x.text(701), -2);
        Check.due("720 bytes", x.text(720), -2);
        Check.due("700 bytes", x.text(700), 3);
        Check.due("e", x.named(Check.letters("e")), 0);
        Check.due("a", x.named(Check.letters("a")), 1);
        Check.due("b", x.named(Check.letters("b")), 2);
        Check.due("c", x.named(Check.letters("c")), Check.NONE);
        Check.due("the refused ones aren't there", x.feed(0x20202020, 0x20202020, 0x20202020, 0x20202020, 0x20202020), 20);
        Check.due("blanks alone", x.text(20), 0);
    }

    // Twenty bytes .., four of each number, the highest first
    private static void promise2HighestByteFirst() {
        for (int i = 0; i < 20; i++) {
            int[] numbers = {0x20202020, 0x20202020, 0x20202020, 0x20202020, 0x20202020};
            numbers[i / 4] |= 0xff << 24 - 8 * (i % 4);
            MaypoleRegister x = new MaypoleRegister();
            x.feed(numbers[0], numbers[1], numbers[2], numbers[3], numbers[4]);
            Check.due("byte " + i + " is no token", x.text(20), Check.NONE);
            Check.due("place of byte " + i, x.fault(1), i);
        }
        MaypoleRegister x = new MaypoleRegister();
        x.feed(0x64616e63, 0x65722061, 0x3b64616e, 0x63657220, 0x623b2020);
        Check.due("dancer a;dancer b;", x.text(20), 2);
    }

    private static void promise2BehindTheTape() {
        MaypoleRegister x = new MaypoleRegister();
        Check.feed(x, Check.times(" ", 20) + Check.times(" ", 19) + "!");
        Check.due("the second twenty are behind the first", x.text(40), Check.NONE);
        Check.due("place", x.fault(1), 39);
        Check.feed(x, Check.times(" ", 20));
        Check.due("behind a text the tape begins anew", x.text(20), 0);
    }

    // The TAPE's first n bytes .. are the TEXT
    private static void promise3FirstBytes() {
        String text = "dancer ab;dancer c;";
        int[][] want = {{0, 0, -1}, {1, 1, 0}, {5, 1, 0}, {6, 1, 6}, {7, 1, 7}, {8, 1, 8}, {9, 1, 9}, {10, 0, -1},
            {11, 1, 10}, {16, 1, 16}, {17, 1, 17}, {18, 1, 18}, {19, 0, -1}, {20, 0, -1}};
        for (int[] one : want) {
            MaypoleRegister x = new MaypoleRegister();
            Check.feed(x, text);
            Check.due("first " + one[0], x.text(one[0]) == Check.NONE, one[1] != 0);
            Check.due("fault of first " + one[0], x.fault(0), one[1]);
            Check.due("place of first " + one[0], x.fault(1), one[2]);
        }
        // what is behind the first n bytes belongs to no token
        MaypoleRegister x = new MaypoleRegister();
        Check.feed(x, "dancer a;!");
        Check.due("a bad byte behind", x.text(9), 1);
        Check.feed(x, "law may 1<=2;");
        Check.due("the sign is cut", x.text(10), Check.NONE);
        Check.due("place", x.fault(1), 10);
        Check.feed(x, "dancer abcdefg;");
        Check.due("the word is cut", x.text(13), Check.NONE);
        Check.due("more must come", x.fault(1), 13);
        Check.feed(x, "over 0 44;");
        Check.due("the number is cut", x.text(8), Check.NONE);
        Check.due("more must come", x.fault(1), 8);
    }

    private static void promise3FullTape() {
        String full = Check.times(" ", 691) + "dancer z;";
        MaypoleRegister x = new MaypoleRegister();
        Check.due("700 bytes", Check.text(x, full), 1);
        Check.due("z", x.named(Check.letters("z")), 0);
        Check.due("700 bytes, more must come", Check.text(x, Check.times(" ", 691) + "dancer zz"), Check.NONE);
        Check.due("fault", x.fault(0), 1);
        Check.due("place", x.fault(1), 700);
        Check.due("700 bytes, the last is no token", Check.text(x, Check.times("\n", 699) + "!"), Check.NONE);
        Check.due("place", x.fault(1), 699);
        Check.due("700 blanks", Check.text(x, Check.times(" ", 700)), 0);
        Check.due("a number of 695 digits", Check.text(x, "slip " + Check.times("0", 692) + "99;"), 1);
        Check.due("holds by it", x.holds(1, 1), 100);
        Check.due("a word of 700 letters", Check.text(x, Check.times("a", 700)), Check.NONE);
        Check.due("place", x.fault(1), 0);
        Check.due("fault", x.fault(0), 1);
    }

    // -2, and the TAPE stays: there are not so many, n is below 0.
    private static void promise3NotSoMany() {
        MaypoleRegister x = new MaypoleRegister();
        Check.due("of an empty tape", x.text(1), -2);
        Check.feed(x, "dancer a;dancer b;");
        for (int n : NO_NUMBERS) {
            Check.due("text " + n, x.text(n), -2);
        }
        Check.due("21 of 20", x.text(21), -2);
        Check.due("701", x.text(701), -2);
        Check.due("the fault stays", x.fault(0), 0);
        Check.due("the tape stays", x.feed(0x20202020, 0x20202020, 0x20202020, 0x20202020, 0x20202020), 40);
        Check.due("41 of 40", x.text(41), -2);
        Check.due("nothing is told yet", x.count(0), 0);
        Check.due("all 40", x.text(40), 2);
    }

    private static void promise3TapeIsEmptyThen() {
        MaypoleRegister x = new MaypoleRegister();
        Check.feed(x, "dancer a;dancer b;");
        Check.due("first 9", x.text(9), 1);
        Check.due("the rest is gone", x.text(1), -2);
        Check.feed(x, "dancer a;dancer a;");
        Check.due("with a fault", x.text(20), Check.NONE);
        Check.due("gone too", x.text(1), -2);
        Check.due("twenty", x.feed(0, 0, 0, 0, 0), 20);
        Check.due("none of them", x.text(0), 0);
        Check.due("gone as well", x.text(1), -2);
    }

    // .. how many LINES
    private static void promise3Lines() {
        stands("");
        stands(" \n \n");
        stands("dancer a;");
        stands("\ndancer\n\na\n;\n");
        stands("slip5;seed7;law may1;over0 0;under0 0;");
        // dancers 6, tellings 24, slip, seed, three laws: there can't be more
        String most = Check.dancers(6) + Check.times("over 0 0;", 23) + "under 99 4;slip 0;seed 0;law may 1;law vow 1;law loosen 1;";
        Check.dueNoFault(most, 35);
    }

    // (YEAR 0, all LEFT, no CROSSINGS, VOWS 0, nothing READ, all KNOWN, no IMAGE, nothing to undo then)
    private static void promise3AllIsAsAtFirst() {
        String text = "dancer a;dancer b;over 0 0;under 0 3;over 1 0;over 2 0;over 3 0;seed 5;law loosen 40;";
        MaypoleRegister x = Check.with(text);
        x.go(2);
        Check.cross(x, 0, 0);
        x.read(0, 0, 0, true);
        x.known(0);
        x.keep();
        x.letGo(1);
        Check.due("anew", Check.text(x, text), 9);
        int[] want = {2, 2, 5, 1, 0, 0, 0, 0, 0, 0, 2, 0, 0, 0};
        for (int what = 0; what < want.length; what++) {
            Check.due("count " + what + " anew", x.count(what), want[what]);
        }
        Check.due("no image", x.alike(), -2);
        Check.due("nothing to undo", x.undo(), Check.NONE);
        Check.due("read", x.read(0, 0, 0, true), 0);
        Check.due("all known", x.count(12), 1);
        Check.due("the place at first", x.dancer(1, 1), 1);
        MaypoleRegister fresh = Check.with(text);
        for (int year = 1; year <= 8; year++) {
            Check.due("year", x.go(1), fresh.go(1));
            Check.due("numbers go on from the seed", x.count(8), fresh.count(8));
        }
        Check.due("an empty text", x.text(0), 0);
        for (int what = 0; what <= 13; what++) {
            Check.due("count " + what + " of an empty text", x.count(what), 0);
        }
        Check.due("nobody now", Check.thrown(x, 0, 0), 1);
        Check.due("no name now", x.named(1 << 25), Check.NONE);
        Check.due("no law now", x.law(2, 0), Check.NO_LAW);
    }

    // NONE with a FAULT, all else stays
    private static void promise3AllElseStays() {
        MaypoleRegister x = Check.with("dancer a;dancer b;over 0 0;under 0 3;slip 30;seed 5;law vow 4;");
        x.go(1);
        Check.cross(x, 0, 1);
        x.keep();
        Check.cross(x, 1);
        x.read(0, 0, 0, true);
        x.read(0, 1, 1, true);
        x.known(1);
        int[] counts = new int[14];
        for (int what = 0; what < counts.length; what++) {
            counts[what] = x.count(what);
        }
        String[] faulty = {"dancer c;dancer c;", "slip 101;", "over 7 1;law may 0;law vow 9;seed 7;slip 3;ann", "!"};
        for (String text : faulty) {
            Check.due("text " + text, Check.text(x, text), Check.NONE);
            for (int what = 0; what < counts.length; what++) {
                Check.due("count " + what + " stays", x.count(what), counts[what]);
            }
            Check.due("a stays", x.named(Check.letters("a")), 0);
            Check.due("c isn't there", x.named(Check.letters("c")), Check.NONE);
            Check.due("law vow stays", x.law(1, 0), 4);
            Check.due("no law may", x.law(0, 0), Check.NO_LAW);
            Check.due("slip stays", x.holds(1, 0), 7);
            Check.due("image stays", x.alike(), 0);
        }
        Check.due("undo stays", x.undo(), 2);
        Check.due("alike to the image", x.alike(), 1);
        Check.due("back", x.back(), 1);
    }

    /** Whether all is as a new register with this text alone answers. */
    private static void dueAsAlone(MaypoleRegister x, String text) {
        MaypoleRegister fresh = Check.with(text);
        Check.due("text behind others: " + text, Check.text(x, text), lineEnds(text));
        for (int what = 0; what <= 13; what++) {
            Check.due("count " + what + " behind others", x.count(what), fresh.count(what));
        }
        for (int n = 1; n <= 2; n++) {
            Check.due("holds behind others", x.holds(n, 0), fresh.holds(n, 0));
        }
        for (int what = 0; what <= 1; what++) {
            Check.due("law behind others", x.law(what, 0), fresh.law(what, 0));
        }
        x.feast(0, 20);
        fresh.feast(0, 20);
        Check.due("loosen behind others", x.law(2, 0), fresh.law(2, 0));
        for (int year = 0; year < 5; year++) {
            x.go(1);
            fresh.go(1);
            Check.due("slipped behind others", x.count(8), fresh.count(8));
            Check.due("crossings behind others", x.count(5), fresh.count(5));
        }
        for (char c = 'a'; c <= 'f'; c++) {
            Check.due("name behind others", x.named(c - 'a' + 1 << 25), fresh.named(c - 'a' + 1 << 25));
        }
    }

    private static void promise3NothingOfAnotherText() {
        String whole = Check.dancers(6) + Check.times("over 0 1;", 9) + "slip 60;seed 99999;law may bond<3;law vow 1/0;law loosen 70;";
        String[] less = {"", Check.dancers(2), Check.dancers(2) + "slip 1;", Check.dancers(2) + "seed 7;slip 50;",
            Check.dancers(3) + "law vow 3;", Check.dancers(3) + "law loosen 50;", Check.dancers(2) + "law may 0;slip 50;"};
        for (String one : less) {
            for (String other : less) {
                MaypoleRegister x = Check.with(whole);
                dueAsAlone(x, one);
                dueAsAlone(x, other);
                dueAsAlone(x, whole);
                dueAsAlone(x, one);
            }
        }
    }

    private static void promise3NothingOfAFaultyText() {
        String whole = Check.dancers(2) + "over 0 0;slip 60;seed 99999;law may not (1<2 and (3+4)*5<(6 or 7));"
                + "law vow (bond-(3-(2-(1))));law loosen 70;";
        String[] then = {whole, Check.dancers(2), Check.dancers(2) + "slip 50;", Check.dancers(2) + "law may (1)+2;slip 50;"};
        for (int n = 1; n < whole.length(); n++) {
            MaypoleRegister x = new MaypoleRegister();
            Check.due("a fault", Check.text(x, whole.substring(0, n) + "!"), Check.NONE);
            dueAsAlone(x, then[n % then.length]);
            Check.due("the fault again", Check.text(x, whole.substring(0, n) + "!"), Check.NONE);
            dueAsAlone(x, then[(n + 1) % then.length]);
        }
    }

    // Of the latest text() that was not -2, what 0: its FAULT (0), 1: its place (NONE without).
    private static void promise4LatestText() {
        MaypoleRegister x = new MaypoleRegister();
        Check.due("of none", x.fault(0), 0);
        Check.due("place of none", x.fault(1), Check.NONE);
        x.text(3);
        Check.due("of a refused one", x.fault(0), 0);
        Check.text(x, "slip 101;");
        Check.due("too much", x.fault(0), 2);
        Check.due("place", x.fault(1), 5);
        x.text(-1);
        x.text(1);
        Check.due("-2 changes nothing", x.fault(0), 2);
        Check.due("nor the place", x.fault(1), 5);
        Check.text(x, "slip 1;slip 1;");
        Check.due("told already", x.fault(0), 3);
        Check.due("place", x.fault(1), 7);
        Check.text(x, "!");
        Check.due("no token", x.fault(0), 1);
        Check.due("place 0", x.fault(1), 0);
        Check.text(x, "slip 1;");
        Check.due("without", x.fault(0), 0);
        Check.due("place without", x.fault(1), Check.NONE);
    }

    // NONE for another what.
    private static void promise4NoOtherWhat() {
        MaypoleRegister x = new MaypoleRegister();
        Check.text(x, "slip 101;");
        for (int what : NO_NUMBERS) {
            Check.due("fault " + what, x.fault(what), Check.NONE);
        }
        Check.due("fault 2", x.fault(2), Check.NONE);
        Check.due("fault 3", x.fault(3), Check.NONE);
    }

    // Blanks 10, 32.
    private static void term1Blanks() {
        for (int c = 0; c < 256; c++) {
            String text = "slip 5;" + (char) c;
            if (c == 10 || c == 32) {
                stands(text);
                stands("slip" + (char) c + "5;");
            } else {
                // any other one is no token or can't begin a LINE
                Check.dueFault(text, 1, 7);
            }
        }
        Check.dueFault("slip\t5;", 1, 4);
        Check.dueFault("slip 5\r\n;", 1, 6);
    }

    // W: one of 1 .. 6 letters, none of those of the language; 1: a word of more than 6 letters .. too
    private static void term1Words() {
        stands("dancer a;");
        stands("dancer z;");
        stands("dancer abcdef;");
        stands("dancer zzzzzz;");
        Check.dueFault("dancer abcdefg;", 1, 7);
        Check.dueFault("dancer dancers;", 1, 7);
        Check.dueFault("dancers a;", 1, 0);
        Check.dueFault("law loosens 1;", 1, 4);
        Check.dueFault("law may abovebe;", 1, 8);
        Check.dueFault("law may above below;", 1, 14);
        Check.dueFault("dancer A;", 1, 7);
        Check.dueFault("dancer aB;", 1, 8);
        Check.dueFault("dancer a`;", 1, 8);
        Check.dueFault("dancer a{;", 1, 8);
        Check.dueFault("dancer a1;", 1, 8);
        Check.dueFault("dancer 1a;", 1, 7);
        for (String word : LANGUAGE) {
            Check.dueFault("dancer " + word + ";", 1, 7);
            if (word.length() < 6) {
                stands("dancer " + word + "x;");
                stands("dancer x" + word + ";");
            }
            if (word.length() > 2) {
                stands("dancer " + word.substring(0, word.length() - 1) + ";");
            }
        }
    }

    private static void term1Names() {
        for (String name : NAMES) {
            Check.due("a NAME is one knot: " + name, stands("law may " + name + ";").count(3), 1);
            Check.dueFault(name + ";", 1, 0);
            Check.dueFault("law " + name + " 1;", 1, 4);
        }
        Check.dueFault("law may may;", 1, 8);
        Check.dueFault("law may slip;", 1, 8);
        Check.dueFault("law may a;", 1, 8);
        Check.dueFault("law above 1;", 1, 4);
        Check.dueFault("law not 1;", 1, 4);
        Check.dueFault("law;", 1, 3);
    }

    // a YEAR 0 .. 99, a PLACE 0 .. 4; slip 0 .. 100; seed 0 .. 99999; N of E 0 .. 9999; 2: a number beyond what is said
    private static void term1Numbers() {
        stands("over 0 0;under 0 0;over 99 4;under 99 4;");
        Check.dueFault("over 100 4;", 2, 5);
        Check.dueFault("under 100 4;", 2, 6);
        Check.dueFault("over 99 5;", 2, 8);
        Check.dueFault("under 99 5;", 2, 9);
        stands("slip 0;");
        stands("slip 100;");
        Check.dueFault("slip 101;", 2, 5);
        stands("seed 0;");
        stands("seed 99999;");
        Check.dueFault("seed 100000;", 2, 5);
        stands("law may 0;law vow 9999;");
        Check.dueFault("law may 10000;", 2, 8);
        Check.dueFault("law may 1+(2*10000);", 2, 13);
        // numbers that would wrap around in 8, 16, 31, 32, 63 or 64 bits, and longer ones
        String[] wrapped = {"256", "65536", "65537", "2147483648", "4294967296", "4294967297", "9223372036854775808",
            "18446744073709551616", "18446744073709551617", "10000000000000000000000000000000000000001"};
        for (String number : wrapped) {
            Check.dueFault("over " + number + " 0;", 2, 5);
            Check.dueFault("over 0 " + number + ";", 2, 7);
            Check.dueFault("slip " + number + ";", 2, 5);
            if (number.length() > 5) {
                Check.dueFault("seed " + number + ";", 2, 5);
            }
            if (number.length() > 4) {
                Check.dueFault("law vow " + number + ";", 2, 8);
            }
        }
        stands("over 0000000000099 00000000004;slip 00000000000100;seed 000000000099999;law may 00000000009999;");
        Check.dueFault("over 00100 0;", 2, 5);
        Check.dueFault("over -1 0;", 1, 5);
        Check.dueFault("slip -1;", 1, 5);
        Check.dueFault("seed +1;", 1, 5);
        Check.dueFault("slip 1 0;", 1, 7);
    }

    // A = (or > behind <) right behind < or > belongs to it.
    private static void term1SignsOfTwo() {
        String[] ones = {"<=", "<>", ">="};
        for (String sign : ones) {
            Check.due("one knot: " + sign, stands("law may 1" + sign + "2;").count(3), 3);
            Check.dueFault("law may 1" + sign.charAt(0) + " " + sign.charAt(1) + "2;", 1, 11);
            Check.dueFault("law may 1" + sign.charAt(0) + "\n" + sign.charAt(1) + "2;", 1, 11);
            Check.dueFault("law may 1" + sign + sign.charAt(1) + "2;", 1, 11);
        }
        String[] twos = {"==", "=<", "=>", "><", "<<", ">>", "+=", "-=", "<+", "<-"};
        for (String sign : twos) {
            Check.dueFault("law may 1" + sign + "2;", 1, 10);
        }
        Check.dueFault("law may 1<=>2;", 1, 11);
        Check.dueFault("law may 1<>=2;", 1, 11);
    }

    // 1 a TOKEN that is none .. or can't stand there
    private static void term1CantStandThere() {
        for (String word : LANGUAGE) {
            boolean begins = word.equals("dancer") || word.equals("over") || word.equals("under") || word.equals("slip")
                    || word.equals("seed") || word.equals("law");
            Check.dueFault(word, 1, begins ? word.length() : 0);
            Check.dueFault("slip 1 " + word + ";", 1, 7);
            Check.dueFault("over " + word + " 1;", 1, 5);
            Check.dueFault("over 1 " + word + ";", 1, 7);
            Check.dueFault("slip " + word + ";", 1, 5);
            Check.dueFault("seed " + word + ";", 1, 5);
        }
        String[] signs = {";", "(", ")", "+", "-", "*", "/", "<", "<=", "=", "<>", ">=", ">", "1", "!", "ann"};
        for (String sign : signs) {
            Check.dueFault(sign, 1, 0);
            Check.dueFault("slip 1;" + sign, 1, 7);
            Check.dueFault("dancer a " + sign + (sign.equals(";") ? ";" : ""), 1, sign.equals(";") ? 10 : 9);
            if (!sign.equals("1")) {
                Check.dueFault("over 1 " + sign, 1, 7);
                Check.dueFault("slip " + sign, 1, 5);
            }
            if (!sign.equals("ann")) {
                Check.dueFault("dancer " + sign, 1, 7);
            }
            Check.dueFault("law " + sign, 1, 4);
        }
        Check.dueFault("over 1 2 3;", 1, 9);
    }

    // (the length, if more must come)
    private static void term1MoreMustCome() {
        String whole = "dancer a;over 0 0;under 1 1;slip 1;seed 1;law may (not 1<2 and (2+3)*4 or left);";
        for (int n = 0; n <= whole.length(); n++) {
            String text = whole.substring(0, n);
            if (n == 0 || text.endsWith(";")) {
                stands(text);
                continue;
            }
            String word = text.substring(Math.max(text.lastIndexOf(' '), text.lastIndexOf(';')) + 1);
            boolean cut = whole.charAt(n) >= 'a' && whole.charAt(n) <= 'z' && word.matches("\\(?[a-z]+");
            // a cut word may be none that can stand there: then the fault is at the word
            if (!cut) {
                Check.dueFault(text, 1, n);
                Check.dueFault(text + "  \n", 1, n + 3);
            }
        }
        Check.dueFault("dance", 1, 0);
        Check.dueFault("dancer a;ov", 1, 9);
        Check.dueFault("law ma", 1, 4);
    }

    // E: A { or A }. A: B { and B }. B: not B | C. C: S [ ( < | .. | > ) S ]. S: T { ( + | - ) T }. ..
    private static void term1GrammarOfE() {
        String[] good = {"1", "(1)", "((year))", "not 1", "not not 1", "not (not 1)", "1+2-3*4/5", "1<2", "1+2<3+4",
            "(1<2)<3", "1<(2<3)", "not 1<2", "1<2 and 3<4", "1 and not 2", "1 or not 2", "1 or 2 and 3 or 4", "(1 or 2)+3",
            "(not 1)+2", "1+(not 2)", "1<(not 2)", "not 1 and not 2 or not 3", "1=(2=3)", "not(1)", "1and 2", "1or 2"};
        for (String e : good) {
            stands("law vow " + e + ";");
        }
        String[] bad = {"", "()", "+1", "-1", "1+", "1++2", "1 2", "1(2)", "(1)2", "(1)(2)", "1<2<3", "1<2=3", "1+2>3>=4",
            "1+not 2", "1*not 2", "1<not 2", "not", "not and", "1 not", "1 not 2", "and 1", "1 and", "1 and or 2", "1 or or 2",
            "(1", "1)", "(1))", "((1)", "1+)", "(1+)2", ")", "(", "(not)", "1<", "<1", "(1<2<3)", "year year", "1;2"};
        int[] places = {0, 1, 0, 0, 2, 2, 2, 1, 3, 3, 3, 3, 5, 2, 2, 2, 3, 4, 2, 2, 0, 5, 6, 5, 2, 1, 3, 4, 2, 3, 0, 1, 4, 2, 0,
            4, 5, 2};
        for (int i = 0; i < bad.length; i++) {
            Check.dueFault("law vow " + bad[i] + ";", 1, 8 + places[i]);
        }
    }

    // DANCERS, at most 6. over, under, at most 24 in all; 2: a seventh dancer and so on (at the word of the LINE)
    private static void term1TooManyLines() {
        stands(Check.dancers(6));
        Check.dueFault(Check.dancers(7), 2, 54);
        Check.dueFault(Check.dancers(6) + " dancer", 2, 55);
        Check.dueFault(Check.dancers(6) + "dancer a;", 2, 54);
        Check.dueFault(Check.dancers(6) + "dancer above;", 2, 54);
        stands(Check.times("over 0 0;", 24));
        stands(Check.times("under 0 0;", 24));
        stands(Check.times("over 0 0;", 12) + Check.times("under 0 0;", 12));
        Check.dueFault(Check.times("over 0 0;", 25), 2, 216);
        Check.dueFault(Check.times("under 0 0;", 25), 2, 240);
        Check.dueFault(Check.times("over 0 0;", 23) + "under 0 0;over 0 0;", 2, 217);
        Check.dueFault(Check.times("under 0 0;", 23) + "over 0 0;under 0 0;", 2, 239);
        Check.dueFault(Check.times("over 0 0;", 24) + "over 100 5;", 2, 216);
        Check.dueFault(Check.times("over 0 0;", 24) + "under !", 2, 216);
        Check.due("24 of years and 6 dancers", stands(Check.dancers(6) + Check.times("over 0 0;", 24)).count(2), 24);
    }

    // a ninth '(' open
    private static void term1OpenOnes() {
        String eight = Check.times("(", 8) + "1" + Check.times(")", 8);
        stands("law may " + eight + ";");
        stands("law may " + eight + "+" + eight + ";law vow " + eight + ";");
        Check.dueFault("law may (" + eight + ");", 2, 16);
        Check.dueFault("law may " + Check.times("(", 9), 2, 16);
        Check.dueFault("law may " + Check.times("(", 8) + "1+(", 2, 18);
        stands("law may " + Check.times("(", 8) + "1)+(1" + Check.times(")", 8) + ";");
        Check.dueFault("law may " + Check.times("(", 8) + "1)+((1", 2, 20);
        Check.dueFault("law may 1;law vow " + Check.times("(", 9), 2, 26);
        stands("law may (" + Check.times("(not ", 7) + "1" + Check.times(")", 8) + ";");
    }

    // a 65th KNOT of all E (N, NAMES, signs, not, and, or: one each)
    private static void term1Knots() {
        String sum = "1" + Check.times("+1", 31);
        Check.due("63 knots", stands("law may " + sum + ";").count(3), 63);
        Check.due("64 knots", stands("law may not " + sum + ";").count(3), 64);
        Check.dueFault("law may not " + sum + "+1;", 2, 75);
        Check.dueFault("law may " + sum + "+1;", 2, 72);
        Check.due("64 of three laws", stands("law may not " + "1" + Check.times("+1", 30) + ";law vow 1;law loosen 1;").count(3), 64);
        Check.dueFault("law may not 1" + Check.times("+1", 30) + ";law vow 1;law loosen 1+1;", 2, 96);
        Check.dueFault("law may not " + sum + ";law vow 1;", 2, 84);
        Check.dueFault("law may not " + sum + ";law vow not 1;", 2, 84);
        // one in parentheses is no more
        String wrapped = "(1)" + Check.times("+(1)", 31);
        Check.due("parentheses", stands("law may not(" + wrapped + ");").count(3), 64);
        Check.dueFault("law may not not(" + wrapped + ");", 2, 8 + 8 + 1 + 4 * 31);
        // a law that isn't read whole tells nothing: its knots are gone with the text
        MaypoleRegister x = new MaypoleRegister();
        Check.due("a text of 60 knots with a fault", Check.text(x, "law may 1" + Check.times("+1", 29) + "!"), Check.NONE);
        Check.due("no knots", x.count(3), 0);
        Check.due("64 then", Check.text(x, "law may not " + sum + ";"), 1);
    }

    private static void term1KnotsOfEachKind() {
        String sum = "1" + Check.times("+1", 31);
        for (String sign : SIGNS) {
            int blank = sign.startsWith(" ") ? 1 : 0;
            Check.dueFault("law may not " + sum + sign + "1;", 2, 75 + blank);
            Check.dueFault("law may " + sum + sign + "1;", 2, 71 + sign.length());
        }
        for (String name : NAMES) {
            Check.due("64 with " + name, stands("law may not " + Check.times("1+", 31) + name + ";").count(3), 64);
            Check.dueFault("law may not not " + Check.times("1+", 31) + name + ";", 2, 78);
        }
        Check.due("64 with nots", stands("law may " + Check.times("not ", 63) + "1;").count(3), 64);
        Check.dueFault("law may " + Check.times("not ", 64) + "1;", 2, 264);
        Check.dueFault("law may " + Check.times("not ", 65) + "1;", 2, 264);
        Check.dueFault("law may " + Check.times("1 and ", 32) + "not 1;", 2, 200);
    }

    // 3 told already: a name (at W), slip, seed (at the word), a law of its RULE (at RULE).
    private static void term1ToldAlready() {
        Check.dueFault("dancer a;dancer a;", 3, 16);
        Check.dueFault("dancer a;dancer b;dancer c;dancer d;dancer e;dancer a;", 3, 52);
        Check.dueFault("dancer abcdef;dancer  abcdef", 3, 22);
        stands("dancer a;dancer aa;dancer aaa;dancer aaaa;dancer aaaaa;dancer aaaaaa;");
        stands("dancer ab;dancer ba;");
        Check.dueFault("slip 0;slip 0;", 3, 7);
        Check.dueFault("slip 0; slip", 3, 8);
        Check.dueFault("slip 5;dancer a;slip 101;", 3, 16);
        Check.dueFault("seed 0;seed 0;", 3, 7);
        Check.dueFault("seed 0;\nseed !", 3, 8);
        String[] rules = {"may", "vow", "loosen"};
        for (String rule : rules) {
            Check.dueFault("law " + rule + " 0;law " + rule + " 0;", 3, 11 + rule.length());
            Check.dueFault("law " + rule + " 0;law " + rule, 3, 11 + rule.length());
            Check.dueFault("law " + rule + " 0;law  " + rule + " !", 3, 12 + rule.length());
        }
        stands("law may 0;law vow 0;law loosen 0;");
        stands("over 0 0;over 0 0;under 0 0;under 0 0;");
    }

    // FAULTS, the first along the text
    private static void term1FirstAlongTheText() {
        Check.dueFault("slip 101;!", 2, 5);
        Check.dueFault("slip 1;!;slip 101;", 1, 7);
        Check.dueFault("slip 1;slip 101;", 3, 7);
        Check.dueFault("slip 101;slip 1;", 2, 5);
        Check.dueFault("over 100 5;", 2, 5);
        Check.dueFault("over 100 !", 2, 5);
        Check.dueFault("over 100", 2, 5);
        Check.dueFault("over 100 a;", 2, 5);
        Check.dueFault("dancer a;dancer a!", 3, 16);
        Check.dueFault("dancer a;dancer a", 3, 16);
        Check.dueFault("law may 1;law may !", 3, 14);
        Check.dueFault("law may 10000+;", 2, 8);
        Check.dueFault("law may 1+;law may 1;", 1, 10);
        Check.dueFault(Check.dancers(6) + "dancer !", 2, 54);
    }

    // (of one place the least)
    private static void term1LeastOfOnePlace() {
        String sum = "1" + Check.times("+1", 31);
        // too much, and can't stand there
        Check.dueFault("over 0 0 100;", 1, 9);
        Check.dueFault("slip 5 101;", 1, 7);
        Check.dueFault("law may 1 10000;", 1, 10);
        Check.dueFault("law may " + Check.times("(", 8) + "1(", 1, 17);
        Check.dueFault("law may not " + sum + " 1;", 1, 76);
        Check.dueFault("law may not " + sum + " not 1;", 1, 76);
        Check.dueFault("law may not not " + Check.times("1+", 31) + "+1;", 1, 78);
        Check.dueFault("law may not not " + Check.times("1+", 31) + "not 1;", 1, 78);
        Check.dueFault("law may not " + Check.times("1+", 31) + "1<1<1;", 2, 75);
        Check.dueFault("law may not " + Check.times("1+", 30) + "1<1<1;", 1, 75);
        Check.dueFault("law may not not " + Check.times("1+", 30) + "1<1;", 2, 78);
        Check.dueFault("law may not 1<" + Check.times("1+", 30) + "1<1;", 1, 75);
        Check.dueFault(Check.dancers(6) + "slip 5 dancer a;", 1, 61);
        Check.dueFault(Check.times("over 0 0;", 24) + "slip over;", 1, 221);
        // told already, and can't stand there
        Check.dueFault("slip 5;over slip;", 1, 12);
        Check.dueFault("dancer a;over a;", 1, 14);
        Check.dueFault("dancer a;a;", 1, 9);
        Check.dueFault("law may 1;may 1;", 1, 10);
        Check.dueFault("law may 1;law vow may;", 1, 18);
    }

    // .. by its letters, 5 bits each (a is 1; the first one highest of six, 0 behind the last one)
    private static void promise5Letters() {
        MaypoleRegister x = Check.with("dancer a;dancer z;dancer ab;dancer abcde;dancer abcdef;dancer zzzzzz;");
        Check.due("a", x.named(0x02000000), 0);
        Check.due("z", x.named(0x34000000), 1);
        Check.due("ab", x.named(0x02200000), 2);
        Check.due("abcde", x.named(1 << 25 | 2 << 20 | 3 << 15 | 4 << 10 | 5 << 5), 3);
        Check.due("abcdef", x.named(1 << 25 | 2 << 20 | 3 << 15 | 4 << 10 | 5 << 5 | 6), 4);
        Check.due("zzzzzz", x.named(26 << 25 | 26 << 20 | 26 << 15 | 26 << 10 | 26 << 5 | 26), 5);
        x.letGo(0);
        Check.due("who let go is named", x.named(0x02000000), 0);
    }

    // NONE: there is none such.
    private static void promise5NoSuchName() {
        MaypoleRegister x = Check.with("dancer a;dancer abcdef;");
        int[] none = {0, 1, 1 << 20, 2 << 25, 1 << 25 | 1, 1 << 25 | 1 << 30, 1 << 25 | 1 << 31, 1 << 25 | 3 << 30,
            1 << 25 | 2 << 20 | 3 << 15 | 4 << 10 | 5 << 5, 1 << 25 | 2 << 20, -1, Integer.MIN_VALUE, Integer.MAX_VALUE};
        for (int letters : none) {
            Check.due("named " + letters, x.named(letters), Check.NONE);
        }
        for (String word : LANGUAGE) {
            Check.due("named " + word, x.named(Check.letters(word)), Check.NONE);
        }
        Check.text(x, "dancer b;");
        Check.due("a is told no more", x.named(1 << 25), Check.NONE);
        Check.due("b is", x.named(2 << 25), 0);
    }

    // Long.MIN_VALUE: an ERROR, no such law, no such ones, no CROSSING (of 2).
    private static void promise13NoSuch() {
        MaypoleRegister x = Check.with(Check.dancers(6) + "law may 10*above+below;law vow place;law loosen many;");
        Check.due("may of code 0", x.law(0, 0), 1);
        Check.due("may of code 1", x.law(0, 1), 10);
        Check.due("may of code 9", x.law(0, 9), 54);
        Check.due("vow of code 9", x.law(1, 9), 4);
        for (int what = 0; what <= 1; what++) {
            Check.due("code 10", x.law(what, 10), Check.NO_LAW);
            for (int code : NO_NUMBERS) {
                Check.due("code " + code, x.law(what, code), Check.NO_LAW);
            }
        }
        Check.due("loosen, no crossing", x.law(2, 0), Check.NO_LAW);
        Check.cross(x, 8);
        Check.due("loosen", x.law(2, 0), 1);
        Check.due("loosen, a code that is none", x.law(2, 10), 1);
        for (int number : NO_NUMBERS) {
            Check.due("loosen, code " + number, x.law(2, number), 1);
            Check.due("law " + number, x.law(number, 0), Check.NO_LAW);
        }
        Check.due("law 3", x.law(3, 0), Check.NO_LAW);
        x.letGo(5);
        Check.due("code 7 of five", x.law(0, 7), 43);
        Check.due("code 8 of five", x.law(0, 8), Check.NO_LAW);
        Check.due("loosen, no crossing more", x.law(2, 0), Check.NO_LAW);
        for (int dancer = 1; dancer <= 3; dancer++) {
            x.letGo(dancer);
        }
        Check.due("code 1 of two", x.law(0, 1), 40);
        Check.due("code 2 of two", x.law(0, 2), Check.NO_LAW);
        x.letGo(0);
        Check.due("one alone", x.law(0, 0), Check.NO_LAW);
    }

    private static void dueValue(String expression, long want) {
        Check.due(expression, Check.with("dancer a;dancer b;law may " + expression + ";").law(0, 0), want);
    }

    // ERROR: / by 0, a value above 10 to the 12 or below 0 by more than that.
    private static void promise13EndsOfValues() {
        String most = "1000*1000*1000*1000";
        dueValue(most, 1000000000000L);
        dueValue(most + "+0", 1000000000000L);
        dueValue(most + "+1", Check.NO_LAW);
        dueValue(most + "+1-1", Check.NO_LAW);
        dueValue("1-1-" + most, -1000000000000L);
        dueValue("0-" + most, -1000000000000L);
        dueValue("0-" + most + "-1", Check.NO_LAW);
        dueValue("0-1-" + most, Check.NO_LAW);
        dueValue("1-" + most, -999999999999L);
        dueValue("1000*1000*1000*1001", Check.NO_LAW);
        dueValue("(0-1000)*1000*1000*1000", -1000000000000L);
        dueValue("(0-1000)*1000*1000*1001", Check.NO_LAW);
        dueValue("(0-1000)*1000*1000*(0-1000)", 1000000000000L);
        dueValue("(0-1001)*1000*1000*(0-1000)", Check.NO_LAW);
        dueValue("9999*9999*9999*9999", Check.NO_LAW);
        dueValue("9999*9999*9999*9999*0", Check.NO_LAW);
        dueValue("0*9999*9999*9999*9999", 0);
        dueValue("not 9999*9999*9999*9999", Check.NO_LAW);
        // products that would wrap around to a small one: 2 to the 64 is nothing in a long
        dueValue("(256*256*256*256*4)*(256*256*256*64)", Check.NO_LAW);
        dueValue("(256*256*256*64)*(256*256*256*256*4)", Check.NO_LAW);
        dueValue("(256*256*256*64)*(1-1-256*256*256*256*4)", Check.NO_LAW);
        dueValue("(256*256*256*256*4)*(256*256*256*64)+5", Check.NO_LAW);
        dueValue("(256*256*256*256)*(256*256*256*256)", Check.NO_LAW);
        dueValue("(256*256*256*256)*(128*256*256*256)", Check.NO_LAW);
        dueValue("(" + most + ")*(" + most + ")", Check.NO_LAW);
        dueValue("1/0", Check.NO_LAW);
        dueValue("0/0", Check.NO_LAW);
        dueValue("5/(3-3)", Check.NO_LAW);
        dueValue("0/5", 0);
        dueValue("(" + most + ")/1", 1000000000000L);
        dueValue("(" + most + ")/(0-1)", -1000000000000L);
        dueValue("1/(1/2)", Check.NO_LAW);
    }

    // comparisons, and, or, not are 1 or 0 (what isn't 0 is as 1, both sides are worked out)
    private static void promise13BothSides() {
        dueValue("1 or 1/0", Check.NO_LAW);
        dueValue("1/0 or 1", Check.NO_LAW);
        dueValue("0 and 1/0", Check.NO_LAW);
        dueValue("1/0 and 0", Check.NO_LAW);
        dueValue("not 1/0", Check.NO_LAW);
        dueValue("1/0<1", Check.NO_LAW);
        dueValue("1<1/0", Check.NO_LAW);
        dueValue("(0-7) and 9999", 1);
        dueValue("(0-7) or 0", 1);
        dueValue("0 or (0-7)", 1);
        dueValue("not (0-7)", 0);
        dueValue("not 2", 0);
        dueValue("not 0", 1);
        dueValue("(3<4)+(4<3)", 1);
        dueValue("(2 and 3)+(2 or 3)+(not 0)", 3);
        String[] signs = {"<", "<=", "=", "<>", ">=", ">"};
        int[][] want = {{1, 0, 0}, {1, 1, 0}, {0, 1, 0}, {1, 0, 1}, {0, 1, 1}, {0, 0, 1}};
        for (int i = 0; i < signs.length; i++) {
            dueValue("(0-5)" + signs[i] + "(0-4)", want[i][0]);
            dueValue("(0-5)" + signs[i] + "(0-5)", want[i][1]);
            dueValue("(0-4)" + signs[i] + "(0-5)", want[i][2]);
            dueValue("1" + signs[i] + "2", want[i][0]);
            dueValue("2" + signs[i] + "2", want[i][1]);
            dueValue("2" + signs[i] + "1", want[i][2]);
        }
    }

    // E: A { or A }. A: B { and B }. B: not B | C. C: S [ .. S ]. S: T { ( + | - ) T }. T: P { ( * | / ) P }.
    private static void promise13WhatBindsCloser() {
        dueValue("1 or 1 and 0", 1);
        dueValue("0 and 1 or 1", 1);
        dueValue("0 and 0 or 1", 1);
        dueValue("1 or 0 and 0", 1);
        dueValue("(1 or 1) and 0", 0);
        dueValue("not 0 and 0", 0);
        dueValue("not 1 or 1", 1);
        dueValue("not 0 or 1", 1);
        dueValue("not (0 and 0)", 1);
        dueValue("not 1=2", 1);
        dueValue("not 0=1", 1);
        dueValue("not 2<1", 1);
        dueValue("not not 3", 1);
        dueValue("2+3*4", 14);
        dueValue("2*3+4", 10);
        dueValue("10-6/2", 7);
        dueValue("6/2-10", -7);
        dueValue("10-4-3", 3);
        dueValue("10-4+3", 9);
        dueValue("10+4-3", 11);
        dueValue("10-(4-3)", 9);
        dueValue("8*7/4", 14);
        dueValue("8/4*7", 14);
        dueValue("7/4*8", 8);
        dueValue("100/10/5", 2);
        dueValue("100/(10/5)", 50);
        dueValue("2*3*4", 24);
        String[] signs = {"<", "<=", "=", "<>", ">=", ">"};
        int[][] wants = {{0, 1, 0}, {0, 1, 1}, {0, 0, 1}, {1, 1, 0}, {1, 0, 1}, {1, 0, 0}};
        for (int i = 0; i < signs.length; i++) {
            // both sides are sums: 5 and 3, 3 and 5, 5 and 5
            dueValue("2+3" + signs[i] + "1+2", wants[i][0]);
            dueValue("1+2" + signs[i] + "2+3", wants[i][1]);
            dueValue("2+3" + signs[i] + "8-3", wants[i][2]);
            dueValue("10/2" + signs[i] + "3*1", wants[i][0]);
            dueValue("not 2+3" + signs[i] + "1+2", 1 - wants[i][0]);
            dueValue("not 1+2" + signs[i] + "2+3", 1 - wants[i][1]);
            dueValue("2+3" + signs[i] + "1+2 and 1", wants[i][0]);
            dueValue("1 and 1+2" + signs[i] + "2+3", wants[i][1]);
            dueValue("0 or 2+3" + signs[i] + "8-3", wants[i][2]);
        }
        for (int left = -1; left <= 2; left++) {
            for (int right = -1; right <= 2; right++) {
                String one = "(" + (left + 1) + "-1)";
                String other = "(" + (right + 1) + "-1)";
                dueValue(one + " and " + other, left != 0 && right != 0 ? 1 : 0);
                dueValue(one + " or " + other, left != 0 || right != 0 ? 1 : 0);
            }
            dueValue("not (" + (left + 1) + "-1)", left == 0 ? 1 : 0);
        }
    }

    // an ERROR of one law is none of another
    private static void promise13EachLawAlone() {
        String[] laws = {"law may 1/0;", "law vow 7;", "law loosen 9;"};
        int[][] orders = {{0, 1, 2}, {0, 2, 1}, {1, 0, 2}, {1, 2, 0}, {2, 0, 1}, {2, 1, 0}};
        for (int[] order : orders) {
            MaypoleRegister x = Check.with("dancer a;dancer b;" + laws[order[0]] + laws[order[1]] + laws[order[2]]);
            Check.cross(x, 0);
            Check.due("may has an ERROR", x.law(0, 0), Check.NO_LAW);
            Check.due("vow", x.law(1, 0), 7);
            Check.due("loosen", x.law(2, 0), 9);
            Check.due("vows", x.count(6), 7);
        }
    }

    // / is cut towards 0
    private static void promise13CutTowardsNothing() {
        dueValue("7/2", 3);
        dueValue("(0-7)/2", -3);
        dueValue("7/(0-2)", -3);
        dueValue("(0-7)/(0-2)", 3);
        dueValue("1/2", 0);
        dueValue("(0-1)/2", 0);
        dueValue("9999/(100*100)", 0);
        dueValue("(0-9999)/(100*100)", 0);
    }

    private static void promise13NoLawNoCrossing() {
        MaypoleRegister x = Check.withDancers(2);
        Check.cross(x, 0);
        for (int what = 0; what <= 2; what++) {
            Check.due("no law " + what, x.law(what, 0), Check.NO_LAW);
        }
        x = Check.with("dancer a;dancer b;law vow 0-9999*9999;law loosen 9999*9999;law may 1/bond;");
        Check.due("vow isn't put to -99", x.law(1, 0), -99980001L);
        Check.due("an ERROR now", x.law(0, 0), Check.NO_LAW);
        Check.cross(x, 0);
        Check.due("loosen isn't put to 100", x.law(2, 0), 99980001L);
        Check.due("none now", x.law(0, 0), 1);
        for (int i = 2; i <= 48; i++) {
            Check.cross(x, i % 2 == 0 ? 1 : 0);
        }
        Check.due("vow of a full plait", x.law(1, 0), -99980001L);
        Check.due("may of a full plait", x.law(0, 0), Check.NO_LAW);
        Check.due("it would be refused", x.cross(0, true), -2);
    }

    // NONE for another what.
    private static void promise39NoOtherWhat() {
        MaypoleRegister x = Check.with(Check.dancers(6));
        for (int what : NO_NUMBERS) {
            Check.due("count " + what, x.count(what), Check.NONE);
        }
        Check.due("count 14", x.count(14), Check.NONE);
        Check.due("count 13", x.count(13), 0);
    }

    private static void promise39EndsOfCounts() {
        StringBuilder text = new StringBuilder(Check.dancers(6));
        for (int i = 0; i < 24; i++) {
            text.append("over 0 ").append(i % 5).append(';');
        }
        text.append("law may not 1").append(Check.times("+1", 31)).append("; law vow 5;");
        MaypoleRegister x = new MaypoleRegister();
        Check.due("65 knots", Check.text(x, text.toString()), Check.NONE);
        x = Check.with(text.toString().replace("law vow 5;", ""));
        Check.due("dancers", x.count(0), 6);
        Check.due("left", x.count(1), 6);
        Check.due("told of years", x.count(2), 24);
        Check.due("knots", x.count(3), 64);
        Check.due("free", x.count(10), 6);
        x.go(1);
        Check.due("refused by not 32", x.count(7), 24);
        Check.due("danced", x.count(5), 0);
        Check.due("vows", x.count(6), 0);
        x.go(1);
        Check.due("refused so far", x.count(7), 24);
        for (int dancer = 0; dancer < 6; dancer++) {
            x.letGo(dancer);
        }
        Check.due("dancers stay", x.count(0), 6);
        Check.due("nobody is left", x.count(1), 0);
        Check.due("nobody is free", x.count(10), 0);
        Check.due("can be undone", x.count(13), 6);
    }
}
