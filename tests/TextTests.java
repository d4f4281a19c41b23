/** Promises 1 to 5, 13 and 39: a new object, the tape, the text and its faults, names, laws, counts. */
public final class TextTests {
    public static void main(String[] args) {
        promise1NewObject();
        promise2Feed();
        promise3Text();
        promise3TextStartsAnew();
        promise4FaultOfTokens();
        promise4FaultOfTooMuch();
        promise4FaultOfToldAlready();
        promise4FaultKeepsAllElse();
        promise5Named();
        promise13Law();
        promise13Values();
        promise13Errors();
        promise39Count();
        Check.finish("TextTests");
    }

    private static void promise1NewObject() {
        MaypoleRegister x = new MaypoleRegister();
        for (int what = 0; what <= 13; what++) {
            Check.due("new count " + what, x.count(what), 0);
        }
        Check.due("new fault", x.fault(0), 0);
        Check.due("new fault place", x.fault(1), Check.NONE);
        Check.due("new tape", x.text(1), -2);
        Check.due("new alike", x.alike(), -2);
        Check.due("NONE", MaypoleRegister.NONE, -1);
    }

    private static void promise2Feed() {
        MaypoleRegister x = new MaypoleRegister();
        for (int i = 1; i <= 35; i++) {
            Check.due("feed " + i, x.feed(0x20202020, -1, 0, 1, 2), 20 * i);
        }
        Check.due("feed beyond 700", x.feed(1, 2, 3, 4, 5), Check.NONE);
        Check.due("text beyond the tape", x.text(701), -2);
        Check.due("text of the first four", x.text(4), 0);
        Check.due("tape is empty then", x.feed(1, 2, 3, 4, 5), 20);
        // ';' stands highest in no number: the order of the bytes shows in the place of the fault
        x = new MaypoleRegister();
        x.feed(0x2020203b, 0x20202020, 0x20202020, 0x20202020, 0x20202020);
        Check.due("text with ';' as fourth byte", x.text(20), Check.NONE);
        Check.due("its place", x.fault(1), 3);
        x.feed(0x20202020, 0x20202020, 0x20202020, 0x20202020, 0x20ff2020);
        Check.due("text with byte 255", x.text(20), Check.NONE);
        Check.due("its place", x.fault(1), 17);
    }

    private static void promise3Text() {
        MaypoleRegister x = new MaypoleRegister();
        Check.due("empty text", x.text(0), 0);
        Check.due("no such length", x.text(-1), -2);
        Check.due("lines", Check.text(x, "dancer a;\ndancer b;over 0 0 ;"), 3);
        Check.due("no blanks", Check.text(x, "slip5;seed7;law may1;over0 0;"), 4);
        Check.due("leading zeros", Check.text(x, "slip 000000000000100;"), 1);
        Check.due("many lines", Check.text(x, "dancer a;dancer b;dancer c;dancer d;dancer e;dancer f;"
                + "slip 100;seed 99999;over 99 4;under 0 0;law may 1;law vow 2;law loosen 3;"), 13);
        Check.feed(x, "dancer zz;garbage");
        Check.due("only the first bytes", x.text(10), 1);
        Check.due("one dancer", x.count(0), 1);
        Check.feed(x, "slip 4;");
        Check.due("more than the tape has", x.text(21), -2);
        Check.due("the tape stays", x.text(7), 1);
        Check.due("the tape is empty", x.text(1), -2);
    }

    private static void promise3TextStartsAnew() {
        MaypoleRegister x = Check.with("dancer a;dancer b;over 0 0;slip 100;");
        x.go(3);
        Check.cross(x, 0, 0);
        x.keep();
        x.read(1, 0, 0, true);
        x.known(1);
        x.letGo(0);
        Check.due("text anew", Check.text(x, "dancer c;dancer d;dancer e;over 0 4;"), 4);
        int[] want = {3, 3, 1, 0, 0, 0, 0, 0, 0, 0, 3, 0, 0, 0};
        for (int what = 0; what < want.length; what++) {
            Check.due("anew count " + what, x.count(what), want[what]);
        }
        Check.due("no image", x.alike(), -2);
        Check.due("no image to go back to", x.back(), Check.NONE);
        Check.due("nothing to undo", x.undo(), Check.NONE);
        x.read(0, 0, 0, true);
        Check.due("all known", x.count(12), 1);
    }

    private static void dueFault(String text, int fault, int place) {
        MaypoleRegister x = new MaypoleRegister();
        Check.due("text " + text, Check.text(x, text), fault == 0 ? lines(text) : Check.NONE);
        Check.due("fault of " + text, x.fault(0), fault);
        Check.due("place of " + text, x.fault(1), fault == 0 ? Check.NONE : place);
        Check.due("fault 2", x.fault(2), Check.NONE);
        Check.due("fault -1", x.fault(-1), Check.NONE);
    }

    private static int lines(String text) {
        int lines = 0;
        for (int i = 0; i < text.length(); i++) {
            lines += text.charAt(i) == ';' ? 1 : 0;
        }
        return lines;
    }

    private static void promise4FaultOfTokens() {
        dueFault("", 0, 0);
        dueFault("dancer abcdef;", 0, 0);
        dueFault("dancer abcdefg;", 1, 7);
        dueFault("dancer above;", 1, 7);
        dueFault("dancer loosen;", 1, 7);
        dueFault("dancer;", 1, 6);
        dueFault("dancer", 1, 6);
        dueFault("dancer 5;", 1, 7);
        dueFault("dancer a b;", 1, 9);
        dueFault("dancer a; ;", 1, 10);
        dueFault("ann;", 1, 0);
        dueFault("may;", 1, 0);
        dueFault("dancer a  ", 1, 10);
        dueFault("over 1;", 1, 6);
        dueFault("over 1 2 3;", 1, 9);
        dueFault("over a 1;", 1, 5);
        dueFault("slip;", 1, 4);
        dueFault("seed 1", 1, 6);
        dueFault("law 1;", 1, 4);
        dueFault("law may;", 1, 7);
        dueFault("law may 1", 1, 9);
        dueFault("law may 1 2;", 1, 10);
        dueFault("law may ann;", 1, 8);
        dueFault("law may -1;", 1, 8);
        dueFault("law may (1;", 1, 10);
        dueFault("law may 1);", 1, 9);
        dueFault("law may ();", 1, 9);
        dueFault("law may 1<2<3;", 1, 11);
        dueFault("law may 1=2+3>4;", 1, 13);
        dueFault("law may (1<2)<3;", 0, 0);
        dueFault("law may 1<(2<3);", 0, 0);
        dueFault("law may 1<2 and 3<4 or 5<6;", 0, 0);
        dueFault("law may 1< =2;", 1, 11);
        dueFault("law may 1<=2;", 0, 0);
        dueFault("law may 1<>2;", 0, 0);
        dueFault("law may 1>=2;", 0, 0);
        dueFault("law may 1=<2;", 1, 10);
        dueFault("law may 1><2;", 1, 10);
        dueFault("law may 1<>=2;", 1, 11);
        dueFault("law may 1+not 2;", 1, 10);
        dueFault("law may 1<not 2;", 1, 10);
        dueFault("law may not not 1<2;", 0, 0);
        dueFault("law may 1 and not (not 2 or not 3);", 0, 0);
        dueFault("law may not;", 1, 11);
        dueFault("law may 1 or;", 1, 12);
        dueFault("law may or 1;", 1, 8);
        dueFault("law may 1 not 2;", 1, 10);
        dueFault("Dancer a;", 1, 0);
        dueFault("slip 5:", 1, 6);
        dueFault("slip\t5;", 1, 4);
        dueFault("slip 5;!", 1, 7);
        dueFault("slip 5;\u0000", 1, 7);
        dueFault("slip 5;\u00ff", 1, 7);
        dueFault("slip 5;\u007f", 1, 7);
        dueFault("slip 5\n;\n\n", 0, 0);
        dueFault("dancer a`;", 1, 8);
        dueFault("dancer a{;", 1, 8);
        dueFault("slip 5/;", 1, 6);
        dueFault("over under;", 1, 5);
    }

    private static void promise4FaultOfTooMuch() {
        dueFault("over 99 4;", 0, 0);
        dueFault("over 100 0;", 2, 5);
        dueFault("under 0 5;", 2, 8);
        dueFault("slip 100;", 0, 0);
        dueFault("slip 101;", 2, 5);
        dueFault("slip 4294967297;", 2, 5);
        dueFault("seed 99999;", 0, 0);
        dueFault("seed 100000;", 2, 5);
        dueFault("law may 9999;", 0, 0);
        dueFault("law may 1+10000;", 2, 10);
        dueFault("law may 99999999999999999999;", 2, 8);
        dueFault(Check.dancers(6), 0, 0);
        dueFault(Check.dancers(7), 2, 54);
        dueFault(Check.dancers(6) + "dancer a;", 2, 54);
        dueFault(Check.dancers(6) + "dancer;", 2, 54);
        dueFault(times("over 0 0;", 12) + times("under 1 1;", 12), 0, 0);
        dueFault(times("over 0 0;", 24) + "over;", 2, 216);
        dueFault(times("over 0 0;", 24) + "under 0 0;", 2, 216);
        dueFault("law may " + times("(", 8) + "1" + times(")", 8) + ";", 0, 0);
        dueFault("law may (1)+" + times("(", 8) + "1" + times(")", 8) + ";", 0, 0);
        dueFault("law may " + times("(", 9) + "1" + times(")", 9) + ";", 2, 16);
        dueFault("law may 1" + times("+1", 31) + ";", 0, 0);
        dueFault("law may not 1" + times("+1", 31) + ";", 0, 0);
        dueFault("law may not 1" + times("+1", 32) + ";", 2, 75);
        dueFault("law may not 1" + times("*1", 31) + "<1;", 2, 75);
        dueFault("law may not 1" + times("*1", 31) + " or 1;", 2, 76);
        dueFault("law may " + times("not ", 63) + "1;", 0, 0);
        dueFault("law may " + times("not ", 64) + "1;", 2, 264);
        dueFault("law may " + times("not ", 65) + "1;", 2, 264);
        dueFault("law may " + times("not ", 32) + "1;law vow " + times("not ", 30) + "1;", 0, 0);
        dueFault("law may " + times("not ", 32) + "1;law vow " + times("not ", 31) + "year;", 2, 270);
        dueFault("law may " + times("((((((((1))))))))*", 31) + "1;", 0, 0);
        // what can't stand there at all is no KNOT
        dueFault("law may not 1" + times("*1", 31) + "ann;", 1, 75);
    }

    private static String times(String part, int many) {
        StringBuilder text = new StringBuilder();
        for (int i = 0; i < many; i++) {
            text.append(part);
        }
        return text.toString();
    }

    private static void promise4FaultOfToldAlready() {
        dueFault("dancer a;dancer a;", 3, 16);
        dueFault("dancer a;dancer aa;", 0, 0);
        dueFault("slip 1;slip 1;", 3, 7);
        dueFault("slip 0;slip;", 3, 7);
        dueFault("seed 0;seed 2;", 3, 7);
        dueFault("law may 1;law vow 1;law loosen 1;", 0, 0);
        dueFault("law may 1;law may 2;", 3, 14);
        dueFault("law loosen 1;law loosen;", 3, 17);
        // the first along the text counts
        dueFault("dancer a;dancer a;slip 101;", 3, 16);
        dueFault("slip 101;dancer a;dancer a;", 2, 5);
    }

    private static void promise4FaultKeepsAllElse() {
        MaypoleRegister x = Check.with("dancer a;dancer b;slip 7;law may many<5;");
        Check.cross(x, 0, 1);
        x.keep();
        x.read(0, 0, 0, true);
        Check.due("faulty text", Check.text(x, "dancer c;law vow 3;slip 200;"), Check.NONE);
        Check.due("its fault", x.fault(0), 2);
        Check.due("its place", x.fault(1), 24);
        Check.due("dancers stay", x.count(0), 2);
        Check.due("crossings stay", x.count(5), 2);
        Check.due("knots stay", x.count(3), 3);
        Check.due("names stay", x.named(Check.letters("b")), 1);
        Check.due("laws stay", x.law(0, 0), 1);
        Check.due("no new law", x.law(1, 0), Check.NO_LAW);
        Check.due("the image stays", x.alike(), 1);
        Check.due("read stays", x.count(11), 1);
        Check.due("undo stays", x.undo(), 1);
        Check.due("the tape is empty", x.text(1), -2);
        Check.due("the fault stays at -2", x.fault(0), 2);
        Check.due("empty text", x.text(0), 0);
        Check.due("no fault then", x.fault(0), 0);
        Check.due("no place then", x.fault(1), Check.NONE);
    }

    private static void promise5Named() {
        MaypoleRegister x = Check.with("dancer a;dancer zzzzzz;dancer ab;");
        Check.due("a", x.named(1 << 25), 0);
        Check.due("zzzzzz", x.named(Check.letters("zzzzzz")), 1);
        Check.due("ab", x.named(1 << 25 | 2 << 20), 2);
        Check.due("b", x.named(2 << 25), Check.NONE);
        Check.due("a lowest", x.named(1), Check.NONE);
        Check.due("nothing", x.named(0), Check.NONE);
        Check.due("below 0", x.named(-1), Check.NONE);
        Check.due("more than 30 bits", x.named(1 << 25 | 1 << 30), Check.NONE);
    }

    private static void promise13Law() {
        MaypoleRegister x = Check.with("dancer a;dancer b;dancer c;"
                + "law may above*100+below*10+place;law vow bond*1000+many*100+left*10+year;law loosen above*10+below;");
        Check.due("may of over 0", x.law(0, 0), 10);
        Check.due("may of under 0", x.law(0, 1), 100);
        Check.due("may of over 1", x.law(0, 2), 121);
        Check.due("may of under 1", x.law(0, 3), 211);
        Check.due("no such code", x.law(0, 4), Check.NO_LAW);
        Check.due("no such code below 0", x.law(0, -1), Check.NO_LAW);
        Check.due("no such law", x.law(3, 0), Check.NO_LAW);
        Check.due("no such law below 0", x.law(-1, 0), Check.NO_LAW);
        Check.due("loosen without a crossing", x.law(2, 0), Check.NO_LAW);
        Check.cross(x, 0, 0, 2);
        // a, b, c stand as a, c, b now, a over b twice, b over c
        Check.due("vow of over 0", x.law(1, 0), 330);
        Check.due("vow of over 1", x.law(1, 2), 1330);
        Check.due("vow isn't put to 99", x.law(1, 3) > 99, true);
        Check.due("may now", x.law(0, 0), 20);
        Check.due("loosen of the last one", x.law(2, 0), 12);
        Check.due("the code isn't looked at", x.law(2, -77), 12);
        x.cross(1, false);
        Check.due("loosen of an under", x.law(2, 99), 12);
        x.letGo(0);
        Check.due("left and year now", x.law(1, 0), 220);
        x.go(7);
        Check.due("year now", x.law(1, 0) % 10, 7);
        MaypoleRegister none = Check.withDancers(2);
        Check.due("no law told", none.law(0, 0), Check.NO_LAW);
        Check.due("no law told", none.law(1, 0), Check.NO_LAW);
        Check.cross(none, 0);
        Check.due("no loosen told", none.law(2, 0), Check.NO_LAW);
    }

    private static void dueValue(String expression, long want) {
        MaypoleRegister x = Check.with("dancer a;dancer b;law may " + expression + ";");
        Check.due(expression, x.law(0, 0), want);
    }

    private static void promise13Values() {
        dueValue("2+3*4", 14);
        dueValue("(2+3)*4", 20);
        dueValue("10-4-3", 3);
        dueValue("10-(4-3)", 9);
        dueValue("100/10/5", 2);
        dueValue("100/7*7", 98);
        dueValue("2*7/4", 3);
        dueValue("(0-7)/2", -3);
        dueValue("7/(0-2)", -3);
        dueValue("(0-7)/(0-2)", 3);
        dueValue("1<2", 1);
        dueValue("2<2", 0);
        dueValue("2<=2", 1);
        dueValue("3<=2", 0);
        dueValue("2=2", 1);
        dueValue("2=3", 0);
        dueValue("2<>3", 1);
        dueValue("2<>2", 0);
        dueValue("2>=2", 1);
        dueValue("1>=2", 0);
        dueValue("3>2", 1);
        dueValue("2>2", 0);
        dueValue("1+1=2", 1);
        dueValue("0-1<0", 1);
        dueValue("5 or 0", 1);
        dueValue("0 or 0", 0);
        dueValue("5 and 7", 1);
        dueValue("5 and 0", 0);
        dueValue("not 5", 0);
        dueValue("not 0", 1);
        dueValue("not not 5", 1);
        dueValue("not 1=2", 1);
        dueValue("not 0 and 0", 0);
        dueValue("not (0 and 0)", 1);
        dueValue("1 or 1 and 0", 1);
        dueValue("(1 or 1) and 0", 0);
        dueValue("0-1 and 1", 1);
        dueValue("9999*9999*9999", 999700029999L);
        dueValue("9999*9999*9999+9999*9999*3", 999999970002L);
        dueValue("9999*9999*9999+9999*9999*3+9999*3+1", 1000000000000L);
        dueValue("0-9999*9999*9999-9999*9999*3-9999*3-1", -1000000000000L);
        dueValue("1000*1000*1000*1000", 1000000000000L);
        dueValue("1000*1000*1000*(0-1000)", -1000000000000L);
    }

    private static void promise13Errors() {
        dueValue("1/0", Check.NO_LAW);
        dueValue("1/(2-2)", Check.NO_LAW);
        dueValue("1 or 1/0", Check.NO_LAW);
        dueValue("0 and 1/0", Check.NO_LAW);
        dueValue("1000*1000*1000*1000+1", Check.NO_LAW);
        dueValue("9999*9999*9999+9999*9999*3+9999*3+2", Check.NO_LAW);
        dueValue("0-1000*1000*1000*1000-1", Check.NO_LAW);
        dueValue("0-1000*1000*1000*1001", Check.NO_LAW);
        dueValue("1000*1000*1000*1001", Check.NO_LAW);
        dueValue("(1000*1000*1000*1000)*(1000*1000*1000*1000)", Check.NO_LAW);
        dueValue("(0-1000*1000*1000*1000)*(1000*1000*1000*1000)", Check.NO_LAW);
        dueValue("(1000*1000*1000*1000+1)*0", Check.NO_LAW);
        dueValue("1000*1000*1000*1000+1-1", Check.NO_LAW);
        dueValue("0*(1000*1000*1000*1000)", 0);
        dueValue("0/5", 0);
    }

    private static void promise39Count() {
        MaypoleRegister x = Check.with(Check.dancers(4) + "over 0 0;over 0 4;under 1 2;law loosen many=2;");
        Check.due("dancers", x.count(0), 4);
        Check.due("left", x.count(1), 4);
        Check.due("told of years", x.count(2), 3);
        Check.due("knots", x.count(3), 3);
        x.go(1);
        Check.due("year", x.count(4), 1);
        Check.due("crossings", x.count(5), 1);
        Check.due("vows", x.count(6), 1);
        Check.due("refused", x.count(7), 1);
        Check.due("slipped", x.count(8), 0);
        Check.due("bound pairs", x.count(9), 1);
        Check.due("free", x.count(10), 2);
        Check.cross(x, 0);
        Check.due("can be undone", x.count(13), 1);
        x.letGo(3);
        Check.due("left", x.count(1), 3);
        Check.due("dancers stay", x.count(0), 4);
        Check.due("free ones are left", x.count(10), 1);
        Check.due("can be undone", x.count(13), 2);
        x.read(0, 0, 0, true);
        x.strike(0);
        Check.due("read", x.count(11), 2);
        Check.due("known by all", x.count(12), 2);
        x.known(1);
        Check.due("known by", x.count(12), 1);
        Check.due("-1", x.count(-1), Check.NONE);
        Check.due("14", x.count(14), Check.NONE);
        Check.due("most", x.count(Integer.MAX_VALUE), Check.NONE);
        MaypoleRegister slips = Check.with("dancer a;dancer b;over 0 0;over 2 0;under 2 0;slip 100;");
        slips.go(3);
        Check.due("slipped so far", slips.count(8), 2);
        Check.due("crossings", slips.count(5), 1);
    }
}
