/** Promises 20, 21, 28, 34 and 35: years that go by, what comes, how likely it holds, feasts by chance, what is tried. */
public final class YearTests {
    private static final String THREE = "dancer a;dancer b;dancer c;";

    public static void main(String[] args) {
        promise20Go();
        promise20Refused();
        promise20SlipsByNumbers();
        promise20NumbersAreSpared();
        promise20SlipsByLaw();
        promise21Ahead();
        promise21AsItGoes();
        promise28Holds();
        promise28HoldsWhateverIsDanced();
        promise34Chance();
        promise35Tried();
        Check.finish("YearTests");
    }

    private static void promise20Go() {
        MaypoleRegister x = Check.with(THREE + "over 1 0;under 0 1;over 0 0;over 98 1;");
        Check.due("no year", x.go(0), 0);
        Check.due("nothing danced", x.count(5), 0);
        Check.due("year 0", x.go(1), 1);
        Check.duePlait("by numbers", x, 3, 0);
        Check.due("year 1", x.go(1), 2);
        Check.duePlait("one more", x, 3, 0, 0);
        Check.due("n below 0", x.go(-1), Check.NONE);
        Check.due("n 100", x.go(100), Check.NONE);
        Check.due("most", x.go(Integer.MAX_VALUE), Check.NONE);
        Check.due("none goes by", x.count(4), 2);
        Check.due("up to 98", x.go(96), 98);
        Check.due("nothing new", x.count(5), 3);
        Check.due("year 98", x.go(1), 99);
        Check.duePlait("one more", x, 3, 0, 0, 2);
        Check.due("vows", x.count(6), 4);
        for (int i = 1; i <= 99; i++) {
            Check.due("99 more", x.go(99), 99 * (i + 1));
        }
        Check.due("9900 is the last one", x.count(4), 9900);
        Check.due("behind 9900", x.go(1), Check.NONE);
        Check.due("none goes by", x.go(0), 9900);
    }

    private static void promise20Refused() {
        MaypoleRegister x = Check.with("dancer a;dancer b;over 0 1;over 0 0;over 1 0;over 1 4;law may year=0;");
        x.go(1);
        Check.due("no such place", x.count(7), 1);
        Check.due("danced", x.count(5), 1);
        x.go(1);
        Check.due("by law, no such place", x.count(7), 3);
        Check.due("none danced", x.count(5), 1);
        Check.due("vows", x.count(6), 1);
        x = Check.with("dancer a;dancer b;over 0 0;over 1 0;law may 5/many;law vow 60*(many+1);");
        x.go(2);
        Check.due("may with an error is 1", x.count(5), 2);
        Check.due("vows 60 and 99", x.count(6), 159);
        x = Check.with("dancer a;dancer b;over 0 0;over 0 0;");
        x.feast(0, 20);
        x.feast(0, 20);
        x.feast(0, 7);
        x.go(1);
        Check.due("48", x.count(5), 48);
        Check.due("the 49th is refused", x.count(7), 1);
        x = Check.with(THREE + "over 0 1;");
        x.letGo(0);
        x.go(1);
        Check.due("who is left has no place 1", x.count(7), 1);
    }

    private static void dueSlips(int slip, int seed) {
        StringBuilder text = new StringBuilder("dancer a;dancer b;slip ").append(slip).append(";seed ").append(seed).append(';');
        for (int year = 0; year < 24; year++) {
            text.append("over ").append(year).append(" 0;");
        }
        MaypoleRegister x = Check.with(text.toString());
        long last = seed;
        int crossings = 0;
        int slipped = 0;
        for (int year = 0; year < 60; year++) {
            crossings += year < 24 ? 1 : 0;
            if (crossings > 0) {
                boolean slips = slip == 100;
                if (slip > 0 && slip < 100) {
                    last = (last * 1103515245L + 12345L) % 2147483648L;
                    slips = last / 65536 % 100 < slip;
                }
                crossings -= slips ? 1 : 0;
                slipped += slips ? 1 : 0;
            }
            x.go(1);
            Check.due("slip " + slip + " seed " + seed + " crossings in year " + year, x.count(5), crossings);
            Check.due("slipped", x.count(8), slipped);
        }
        Check.due("vows stay", x.count(6), 24);
    }

    private static void promise20SlipsByNumbers() {
        int[] slips = {0, 1, 35, 50, 99, 100};
        for (int slip : slips) {
            dueSlips(slip, 0);
            dueSlips(slip, 99999);
            dueSlips(slip, 4711);
        }
    }

    /** Where E is 0 or 100 no number is taken: those of the years behind them come as if these had not been. */
    private static void promise20NumbersAreSpared() {
        MaypoleRegister x = Check.with("dancer a;dancer b;seed 31;law loosen 50*(year>3)+100*(year=1 or year=2)"
                + "+50*(year=5 or year=8)-50*(year=10);");
        x.feast(1, 20);
        x.feast(1, 20);
        int[] odds = {0, 100, 100, 0, 50, 100, 50, 50, 100, 50, 0, 50, 50, 50, 50, 50, 50, 50, 50, 50};
        long last = 31;
        int crossings = 40;
        for (int year = 0; year < odds.length; year++) {
            boolean slips = odds[year] == 100;
            if (odds[year] == 50) {
                last = (last * 1103515245L + 12345L) % 2147483648L;
                slips = last / 65536 % 100 < 50;
            }
            crossings -= slips ? 1 : 0;
            x.go(1);
            Check.due("crossings behind year " + year, x.count(5), crossings);
        }
    }

    /** Whether the E, told as loosen, slips as slip of so much does. */
    private static void dueAsSlip(String loosen, int slip) {
        String rest = "dancer a;dancer b;over 0 0;over 1 0;over 2 0;under 4 0;over 5 0;over 7 0;seed 99;";
        MaypoleRegister x = Check.with(rest + "slip 42;law loosen " + loosen + ";");
        MaypoleRegister y = Check.with(rest + "slip " + slip + ";");
        for (int i = 0; i < 20; i++) {
            x.go(1);
            y.go(1);
            Check.due("crossings with loosen " + loosen, x.count(5), y.count(5));
        }
    }

    private static void promise20SlipsByLaw() {
        dueAsSlip("60", 60);
        dueAsSlip("0", 0);
        dueAsSlip("0-9", 0);
        dueAsSlip("100", 100);
        dueAsSlip("101", 100);
        dueAsSlip("9999", 100);
        dueAsSlip("1/0", 42);
        dueAsSlip("above/(year-year)", 42);
        MaypoleRegister x = Check.with(THREE + "over 0 0;over 1 1;over 2 0;law loosen 100*(above=0 and below=2 and place=1);");
        x.go(1);
        Check.due("a over b stays", x.count(5), 1);
        x.go(1);
        Check.due("a over c slips", x.count(5), 1);
        Check.due("it is the last one", Check.code(x, 0), 0);
        x.go(1);
        Check.due("b over a stays", x.count(5), 2);
        x = Check.with("dancer a;dancer b;over 0 0;over 0 0;over 0 0;law loosen 100*(bond>2 or many=1 or year=5);");
        x.go(1);
        Check.due("bond 3", x.count(5), 2);
        x.go(4);
        Check.due("two stay", x.count(5), 2);
        x.go(1);
        Check.due("year 5, and many 1 in the year behind it", x.count(5), 1);
        x.go(1);
        Check.due("many 1", x.count(5), 0);
        x.go(5);
        Check.due("none slips of none", x.count(8), 3);
    }

    private static void dueAhead(MaypoleRegister x, int n, int... want) {
        for (int what = 0; what < want.length; what++) {
            Check.due("ahead " + n + " " + what, x.ahead(n, what), want[what]);
        }
    }

    private static void promise21Ahead() {
        MaypoleRegister x = Check.with(THREE + "over 0 0;under 0 1;over 1 2;over 1 0;over 2 0;over 2 3;law vow 3;");
        dueAhead(x, 0, 0, 0, 0, 0, 1);
        // 0 over 1, 2 over 0: 1 2 0; then 1 over 2: 2 1 0; then 2 over 1: 1 2 0
        dueAhead(x, 1, 2, 6, 0, 2, 0);
        dueAhead(x, 2, 3, 9, 1, 3, 0);
        dueAhead(x, 3, 4, 12, 2, 3, 0);
        dueAhead(x, 99, 4, 12, 2, 3, 0);
        Check.due("now is as it was", x.count(5), 0);
        Check.due("year as it was", x.count(4), 0);
        x.go(2);
        dueAhead(x, 0, 3, 9, 0, 3, 0);
        dueAhead(x, 1, 4, 12, 1, 3, 0);
        Check.due("n 100", x.ahead(100, 0), Integer.MIN_VALUE);
        Check.due("n below 0", x.ahead(-1, 0), Integer.MIN_VALUE);
        Check.due("what 5", x.ahead(0, 5), Integer.MIN_VALUE);
        Check.due("what below 0", x.ahead(0, -1), Integer.MIN_VALUE);
        x = Check.with("dancer a;dancer b;over 0 0;under 1 0;");
        dueAhead(x, 1, 1, 1, 0, 1, 0);
        dueAhead(x, 2, 2, 2, 0, 0, 1);
    }

    private static void promise21AsItGoes() {
        String rest = "dancer a;dancer b;over 0 0;over 1 0;over 2 0;seed 1;";
        dueAhead(Check.with(rest + "slip 49;"), 3, 3, 3, 0, 1, 0);
        dueAhead(Check.with(rest + "slip 50;"), 3, 0, 3, 0, 0, 1);
        dueAhead(Check.with(rest + "slip 0;law loosen 50;"), 3, 0, 3, 0, 0, 1);
        dueAhead(Check.with(rest + "slip 100;law loosen 49;"), 3, 3, 3, 0, 1, 0);
        dueAhead(Check.with(rest + "slip 50;law loosen 1/0;"), 3, 0, 3, 0, 0, 1);
        dueAhead(Check.with(rest + "slip 100;law loosen 0-1;"), 3, 3, 3, 0, 1, 0);
        dueAhead(Check.with(rest + "law loosen 9999;"), 3, 0, 3, 0, 0, 1);
        dueAhead(Check.with(rest + "law loosen (many>1)*50;"), 9, 1, 3, 0, 1, 0);
        MaypoleRegister x = Check.with(rest + "slip 70;");
        MaypoleRegister y = Check.with(rest + "slip 70;");
        x.ahead(99, 0);
        x.tried(0, 0, 99);
        x.go(9);
        y.go(9);
        Check.due("no number is taken", x.count(8) * 100 + x.count(5), y.count(8) * 100 + y.count(5));
    }

    private static void dueHolds(MaypoleRegister x, int n, long above, long below) {
        Check.due("holds " + n + " above", x.holds(n, 0), above);
        Check.due("holds " + n + " below", x.holds(n, 1), below);
    }

    private static void promise28Holds() {
        MaypoleRegister x = Check.with("dancer a;dancer b;over 0 0;slip 60;law loosen 7;");
        dueHolds(x, 0, 1, 1);
        dueHolds(x, 1, 2, 5);
        dueHolds(x, 2, 4, 25);
        dueHolds(x, 6, 64, 15625);
        x = Check.with("dancer a;dancer b;over 0 0;slip 1;");
        dueHolds(x, 6, 941480149401L, 1000000000000L);
        x = Check.with("dancer a;dancer b;over 0 0;slip 100;");
        dueHolds(x, 1, 0, 1);
        dueHolds(x, 6, 0, 1);
        dueHolds(x, 0, 1, 1);
        x = Check.with("dancer a;dancer b;over 0 0;");
        dueHolds(x, 6, 1, 1);
        Check.due("n 7", x.holds(7, 0), Check.NONE);
        Check.due("n below 0", x.holds(-1, 0), Check.NONE);
        Check.due("what 2", x.holds(1, 2), Check.NONE);
        Check.due("what below 0", x.holds(1, -1), Check.NONE);
        Check.due("now is as it was", x.count(5) + x.count(4), 0);
    }

    /** It goes by slip told and by n alone: neither by laws nor by the plait, now or as it would go on. */
    private static void promise28HoldsWhateverIsDanced() {
        MaypoleRegister x = Check.with("dancer a;dancer b;over 2 0;slip 50;");
        dueHolds(x, 2, 1, 4);
        dueHolds(x, 3, 1, 8);
        dueHolds(x, 6, 1, 64);
        x.go(2);
        dueHolds(x, 2, 1, 4);
        Check.cross(x, 0, 0, 1);
        dueHolds(x, 2, 1, 4);
        x.letGo(0);
        dueHolds(x, 2, 1, 4);
        x = Check.with("dancer a;dancer b;over 0 0;slip 50;law may 0;law loosen 100;");
        dueHolds(x, 6, 1, 64);
        x = Check.with("dancer a;dancer b;over 0 0;law loosen 100;");
        dueHolds(x, 6, 1, 1);
        x = Check.with("slip 100;");
        dueHolds(x, 6, 0, 1);
        dueHolds(new MaypoleRegister(), 6, 1, 1);
    }

    private static int homeOfTen(int dancers, long seed, int n) {
        long last = seed;
        int home = 0;
        for (int feast = 0; feast < 10; feast++) {
            int[] order = {0, 1, 2, 3, 4, 5};
            for (int i = 0; i < n; i++) {
                last = (last * 1103515245L + 12345L) % 2147483648L;
                int place = (int) (last / 65536 % (2 * (dancers - 1))) / 2;
                int moved = order[place];
                order[place] = order[place + 1];
                order[place + 1] = moved;
            }
            boolean isHome = true;
            for (int i = 0; i < 6; i++) {
                isHome &= order[i] == i;
            }
            home += isHome ? 1 : 0;
        }
        return home;
    }

    private static void promise34Chance() {
        int[] seeds = {0, 1, 7, 99999, 2147483647};
        int[] rows = {1, 2, 4, 6, 20, 48};
        for (int dancers = 2; dancers <= 6; dancers++) {
            MaypoleRegister x = Check.withDancers(dancers);
            Check.cross(x, 0);
            for (int seed : seeds) {
                for (int n : rows) {
                    Check.due("chance " + seed + " " + n + " of " + dancers, x.chance(seed, n), homeOfTen(dancers, seed, n));
                }
            }
            Check.due("untouched", x.count(5), 1);
        }
        MaypoleRegister x = Check.withDancers(3);
        Check.due("n 0", x.chance(0, 0), Check.NONE);
        Check.due("n 49", x.chance(0, 49), Check.NONE);
        Check.due("n below 0", x.chance(0, -1), Check.NONE);
        Check.due("seed below 0", x.chance(-1, 1), Check.NONE);
        x.letGo(1);
        Check.due("of two", x.chance(5, 4), homeOfTen(2, 5, 4));
        Check.due("two, an even row", x.chance(5, 48), 10);
        x.letGo(0);
        Check.due("alone", x.chance(5, 4), Check.NONE);
        Check.due("nobody", new MaypoleRegister().chance(5, 4), Check.NONE);
    }

    private static void promise35Tried() {
        MaypoleRegister x = Check.with(THREE + "over 0 0;under 0 1;over 1 1;slip 60;law may above<below or bond>0;");
        // as it goes: 0 over 1 is danced, 2 over 0 isn't, it slips; 1 over 2 is danced, it slips
        Check.due("as it goes", x.tried(0, 0, 1), 0);
        Check.due("no year", x.tried(0, 0, 0), 0);
        Check.due("nothing slips, 1 year", x.tried(1, 0, 1), 1);
        // 1 0 2: in year 1 0 over 2
        Check.due("nothing slips, 2 years", x.tried(1, 0, 2), 2);
        Check.due("nothing slips, 99 years", x.tried(1, 0, 99), 2);
        Check.due("all may", x.tried(3, 0, 1), 1);
        Check.due("all may, 2 years", x.tried(3, 0, 2), 1);
        Check.due("0 has let go: 1 over 2", x.tried(2, 0, 1), 0);
        // turned: 1 over 0 is refused, 1 over 2 is danced, it slips; 2 over 1 is refused
        Check.due("turned", x.tried(4, 0, 1), 0);
        MaypoleRegister still = Check.with(THREE + "over 0 0;under 0 1;over 1 1;law may above<below;");
        Check.due("as it goes", still.tried(0, 0, 2), 2);
        Check.due("0 let go", still.tried(2, 0, 2), 1);
        Check.due("1 let go", still.tried(2, 1, 2), 1);
        Check.due("all may", still.tried(3, 0, 2), 3);
        Check.due("turned", still.tried(4, 0, 2), 2);
        Check.due("turned, 1 year", still.tried(4, 0, 1), 1);
        Check.due("now is as it was", still.count(5) + still.count(4), 0);
        MaypoleRegister order = Check.with("dancer a;dancer b;over 0 0;under 1 0;under 2 0;law may above=0;");
        // a passes over b; b stands left then, so that a passes over again by under; then b by under
        Check.due("as it goes", order.tried(0, 0, 3), 2);
        Check.due("turned, none is danced but the second", order.tried(4, 0, 3), 1);
        Check.due("turned, 1 year", order.tried(4, 0, 1), 0);
        Check.due("turned no more", order.tried(0, 0, 1), 1);
        Check.due("ahead isn't turned", order.ahead(1, 0), 1);
        Check.due("all may", order.tried(3, 0, 3), 3);
        Check.due("ahead not all may", order.ahead(3, 0), 2);
        order.go(3);
        Check.due("nor in years", order.count(5), 2);
        Check.due("left as it was", still.count(1), 3);
        Check.due("what 5", still.tried(5, 0, 0), Check.NONE);
        Check.due("what below 0", still.tried(-1, 0, 0), Check.NONE);
        Check.due("n 100", still.tried(0, 0, 100), Check.NONE);
        Check.due("n below 0", still.tried(0, 0, -1), Check.NONE);
        for (int what = 0; what <= 4; what++) {
            Check.due("i 1 of what " + what, still.tried(what, 1, 0), what == 2 ? 0 : Check.NONE);
        }
        Check.due("no dancer 3", still.tried(2, 3, 0), Check.NONE);
        Check.due("no dancer -1", still.tried(2, -1, 0), Check.NONE);
        Check.cross(still, 0, 1);
        Check.due("2 let go, no year", still.tried(2, 2, 0), 2);
        Check.due("1 let go, no year", still.tried(2, 1, 0), 0);
        still.letGo(2);
        Check.due("not left", still.tried(2, 2, 0), Check.NONE);
        MaypoleRegister full = Check.with("dancer a;dancer b;over 0 0;over 0 0;over 0 1;");
        for (int i = 0; i < 47; i++) {
            full.cross(0, true);
        }
        Check.due("all may, but 48", full.tried(3, 0, 1), 48);
    }
}
