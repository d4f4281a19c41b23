/** The edges that the document names in promises 23 to 27, and in the terms of BACK, MAKE, LOOSE ROWS, TIED and FREED. */
public final class EdgesOfSearchTests {
    private static final int[] NO_NUMBERS = {-1, -2, Integer.MIN_VALUE, Integer.MIN_VALUE + 1, Integer.MAX_VALUE};

    public static void main(String[] args) {
        promise23NoOtherWhat();
        promise23ByNone();
        promise23TheFewest();
        promise23TheFirstRow();
        promise23BehindAFullPlait();
        promise23ThoseWhoAreLeft();
        promise24NoSuchOnes();
        promise24NoSuchPair();
        promise24ByNone();
        promise24TheFewest();
        promise24TheFirstRow();
        promise24OfPlaces();
        promise25NoSuchN();
        promise25HowMany();
        promise26NoSuchThree();
        promise26NoTwoAreBound();
        promise26AllOthersHaveLetGo();
        promise27NoSuchDancer();
        promise27WhoIsFree();
        promise23To25OneBehindAnother();
        Check.finish("EdgesOfSearchTests");
    }

    private static MaypoleRegister danced(int dancers, int... codes) {
        MaypoleRegister x = Check.withDancers(dancers);
        Check.cross(x, codes);
        return x;
    }

    /** BACK by just these codes; what is not asked for by the document is none. */
    private static void dueBack(MaypoleRegister x, int... codes) {
        int crossings = x.count(5);
        Check.due("back by how many", x.danceBack(0), codes.length);
        for (int what = 1; what <= 3; what++) {
            Check.due("back " + what, x.danceBack(what), what <= codes.length ? codes[what - 1] : -2);
        }
        Check.due("the plait stays", x.count(5), crossings);
        Check.cross(x, codes);
        Check.due("it makes it loose", x.isLoose(), true);
        for (int i = 0; i < codes.length; i++) {
            x.undo();
        }
    }

    private static void dueNoBack(MaypoleRegister x) {
        for (int what = 0; what <= 3; what++) {
            Check.due("back by none " + what, x.danceBack(what), -2);
        }
        Check.due("what 4", x.danceBack(4), Check.NONE);
    }

    // NONE for another what.
    private static void promise23NoOtherWhat() {
        MaypoleRegister[] all = {new MaypoleRegister(), danced(2, 0), danced(2, 0, 0, 0), danced(2, 0, 0, 0, 0)};
        for (MaypoleRegister x : all) {
            Check.due("what 4", x.danceBack(4), Check.NONE);
            for (int what : NO_NUMBERS) {
                Check.due("what " + what, x.danceBack(what), Check.NONE);
            }
        }
    }

    // -2: by none; the fewest CROSSINGS, 0 .. 3
    private static void promise23ByNone() {
        dueBack(danced(2, 0, 0, 0), 1, 1, 1);
        dueNoBack(danced(2, 0, 0, 0, 0));
        dueBack(danced(2, 1, 1, 1), 0, 0, 0);
        dueNoBack(danced(2, 1, 1, 1, 1));
        dueNoBack(danced(6, 0, 2, 4, 6));
        dueBack(danced(6, 4, 6, 8), 9, 7, 5);
        dueNoBack(danced(3, 0, 3, 0, 3, 0, 3));
        dueNoBack(danced(3, 0, 3, 0, 3));
        dueNoBack(danced(3, 0, 0, 2, 2, 1, 1, 3, 3));
        // home and far from loose
        dueNoBack(danced(3, 0, 2, 0, 2, 0, 2));
    }

    private static void promise23TheFewest() {
        dueBack(new MaypoleRegister());
        dueBack(Check.withDancers(1));
        dueBack(Check.withDancers(6));
        dueBack(danced(2, 0, 1));
        dueBack(danced(3, 0, 2, 0, 3, 1, 3));
        dueBack(danced(2, 0, 0, 1), 1);
        dueBack(danced(3, 0, 2, 0, 1), 3, 1);
        dueBack(danced(3, 0, 2, 0, 3, 1), 3);
        dueBack(danced(4, 0, 4, 1), 5);
        dueBack(danced(6, 9), 8);
        dueBack(danced(6, 0, 0, 1, 1, 8), 9);
        dueBack(danced(2, 0, 0, 0, 0, 1), 1, 1, 1);
    }

    // of several rows the first; rows go by the CODE of the first one, then of the second one and so on
    private static void promise23TheFirstRow() {
        dueBack(danced(4, 0, 4), 1, 5);
        dueBack(danced(4, 4, 0), 1, 5);
        dueBack(danced(4, 1, 5), 0, 4);
        dueBack(danced(4, 4, 1), 0, 5);
        dueBack(danced(6, 8, 4, 0), 1, 5, 9);
        dueBack(danced(6, 0, 4, 8), 1, 5, 9);
        dueBack(danced(6, 9, 5, 1), 0, 4, 8);
        dueBack(danced(6, 8, 0, 8), 1, 9, 9);
        dueBack(danced(6, 0, 8, 0), 1, 1, 9);
        dueBack(danced(3, 0, 2, 0), 1, 3, 1);
        dueBack(danced(3, 2, 0, 2), 1, 3, 1);
        dueBack(danced(3, 1, 3, 1), 0, 2, 0);
        dueBack(danced(3, 3, 1, 3), 0, 2, 0);
        dueBack(danced(3, 0, 2, 1), 0, 3, 1);
        dueBack(danced(3, 3, 0, 2), 0, 3, 1);
        dueBack(danced(3, 0, 2), 3, 1);
        dueBack(danced(3, 2, 0), 1, 3);
    }

    private static void promise23BehindAFullPlait() {
        MaypoleRegister x = Check.withDancers(4);
        for (int i = 0; i < 22; i++) {
            Check.cross(x, i % 6, i % 6 ^ 1);
        }
        Check.cross(x, 0, 2, 4, 5);
        Check.due("48", x.count(5), 48);
        Check.due("by two", x.danceBack(0), 2);
        Check.due("the first", x.danceBack(1), 3);
        Check.due("the second", x.danceBack(2), 1);
        Check.due("no third", x.danceBack(3), -2);
        x.undo();
        Check.due("by three from 47", x.danceBack(0), 3);
        Check.due("48 are there still, less one", x.count(5), 47);
        Check.due("the third", x.danceBack(3), 1);
        x.undo();
        Check.cross(x, 2, 4);
        Check.due("48", x.count(5), 48);
        dueNoBack(x);
    }

    private static void promise23ThoseWhoAreLeft() {
        MaypoleRegister x = danced(4, 4, 2, 0, 2, 4);
        dueNoBack(x);
        x.letGo(1);
        // b is gone: d and c cross, then both cross a
        int size = x.count(5);
        Check.due("fewer crossings", size < 5, true);
        x.letGo(3);
        Check.due("two are left", x.count(1), 2);
        x.letGo(0);
        dueBack(x);
        x = danced(3, 0, 2);
        x.letGo(0);
        dueBack(x);
        x.undo();
        x.letGo(1);
        dueBack(x, 1);
    }

    // NONE: no such ones
    private static void promise24NoSuchOnes() {
        MaypoleRegister x = Check.withDancers(3);
        for (int number : NO_NUMBERS) {
            Check.due("what " + number, x.make(1, number), Check.NONE);
            Check.due("what " + number + " by none", x.make(7, number), Check.NONE);
            Check.due("pairs " + number, x.make(number, 0), Check.NONE);
        }
        Check.due("what 5", x.make(1, 5), Check.NONE);
        Check.due("what 4", x.make(1, 4), -2);
        Check.due("what 5 by none", x.make(7, 5), Check.NONE);
        Check.due("what 4 by none", x.make(7, 4), -2);
        Check.due("what 5 of no such pair", x.make(8, 5), Check.NONE);
    }

    // no such PAIR
    private static void promise24NoSuchPair() {
        int[] pairs = {0, 0, 1, 3, 6, 10, 15};
        for (int dancers = 0; dancers <= 6; dancers++) {
            MaypoleRegister x = Check.withDancers(dancers);
            Check.due("no pair", x.make(0, 0), 0);
            Check.due("no code of it", x.make(0, 1), -2);
            for (int pair = 0; pair < 31; pair++) {
                boolean isNone = x.make(1 << pair, 4) == Check.NONE;
                Check.due("pair " + pair + " of " + dancers, isNone, pair >= pairs[dancers]);
            }
            Check.due("all pairs and one more", x.make((2 << pairs[dancers]) - 1, 0), Check.NONE);
            if (pairs[dancers] > 0) {
                Check.due("the last pair", x.make(1 << pairs[dancers] - 1, 0), 2);
                Check.due("the first pair and none", x.make(1 | 1 << pairs[dancers], 0), Check.NONE);
            }
        }
        MaypoleRegister x = Check.withDancers(4);
        Check.due("pair 5 of four", x.make(1 << 5, 0), 2);
        x.letGo(0);
        Check.due("pair 3 of three", x.make(1 << 3, 0), Check.NONE);
        Check.due("pair 2 of three", x.make(1 << 2, 0), 2);
    }

    // -2: by none
    private static void promise24ByNone() {
        // each of these needs more than four crossings
        int[] none = {0b000100, 0b111111, 0b001011, 0b010010, 0b001100, 0b000110};
        MaypoleRegister x = Check.withDancers(4);
        for (int pairs : none) {
            for (int what = 0; what <= 4; what++) {
                Check.due("make " + pairs + " what " + what, x.make(pairs, what), -2);
            }
        }
        x = Check.withDancers(3);
        Check.due("all three pairs", x.make(7, 0), -2);
        x = Check.withDancers(6);
        Check.due("the first and the last place", x.make(1 << 4, 0), -2);
        Check.due("three pairs side by side", x.make(1 | 1 << 9 | 1 << 14, 0), -2);
    }

    private static void dueMake(int dancers, int pairs, int... codes) {
        MaypoleRegister x = Check.withDancers(dancers);
        Check.due("make " + pairs + " of " + dancers, x.make(pairs, 0), codes.length);
        for (int what = 1; what <= 4; what++) {
            Check.due("make " + pairs + " of " + dancers + " code " + what, x.make(pairs, what),
                    what <= codes.length ? codes[what - 1] : -2);
        }
        Check.due("nothing is danced", x.count(5), 0);
        Check.cross(x, codes);
        Check.due("all are home by it", x.isHome(), true);
        int bound = 0;
        int pair = 0;
        for (int one = 0; one < dancers; one++) {
            for (int other = one + 1; other < dancers; other++) {
                bound |= x.bond(one, other) != 0 ? 1 << pair : 0;
                pair++;
            }
        }
        Check.due("just those are bound", bound, pairs);
    }

    // the fewest CROSSINGS, 0 .. 4
    private static void promise24TheFewest() {
        for (int dancers = 0; dancers <= 6; dancers++) {
            dueMake(dancers, 0);
        }
        dueMake(2, 1, 0, 0);
        dueMake(3, 0b010, 0, 2, 2, 1);
        dueMake(3, 0b011, 0, 2, 2, 0);
        dueMake(3, 0b110, 2, 0, 0, 2);
        dueMake(3, 0b101, 0, 0, 2, 2);
        dueMake(6, 1 << 14, 8, 8);
        dueMake(6, 1 << 13, 6, 8, 8, 7);
        dueMake(6, 1 | 1 << 14, 0, 0, 8, 8);
    }

    // of several rows the first
    private static void promise24TheFirstRow() {
        // (0, 1), (0, 2), (0, 3), (1, 2), (1, 3), (2, 3)
        dueMake(4, 1, 0, 0);
        dueMake(4, 1 << 3, 2, 2);
        dueMake(4, 1 << 5, 4, 4);
        dueMake(4, 1 << 1, 0, 2, 2, 1);
        dueMake(4, 1 << 4, 2, 4, 4, 3);
        dueMake(4, 1 | 1 << 5, 0, 0, 4, 4);
        dueMake(4, 1 | 1 << 3, 0, 0, 2, 2);
        dueMake(4, 1 << 3 | 1 << 4, 2, 4, 4, 2);
        dueMake(4, 1 << 3 | 1 << 5, 2, 2, 4, 4);
        dueMake(4, 1 << 4 | 1 << 5, 4, 2, 2, 4);
    }

    // danced from nothing by those who are LEFT .. who stand at such PLACES at first
    private static void promise24OfPlaces() {
        MaypoleRegister x = danced(5, 0, 0, 2, 4, 7);
        x.letGo(1);
        x.letGo(3);
        Check.due("the pair (1, 2) of places is c and e", x.make(0b100, 0), 2);
        Check.due("its first code", x.make(0b100, 1), 2);
        Check.due("the pair (0, 2)", x.make(0b010, 2), 2);
        Check.due("no pair 3", x.make(0b1000, 0), Check.NONE);
        x.letGo(0);
        Check.due("two are left", x.make(1, 1), 0);
        x.letGo(2);
        Check.due("one is left", x.make(1, 0), Check.NONE);
        Check.due("no pair of one", x.make(0, 0), 0);
        x.letGo(4);
        Check.due("no pair of nobody", x.make(0, 0), 0);
        x = Check.with("dancer a;dancer b;law may 0;");
        Check.due("whatever the laws", x.make(1, 0), 2);
    }

    // NONE: no such n.
    private static void promise25NoSuchN() {
        for (int dancers = 0; dancers <= 6; dancers += 3) {
            MaypoleRegister x = Check.withDancers(dancers);
            for (int n : NO_NUMBERS) {
                Check.due("n " + n, x.looseRows(n), Check.NONE);
            }
            Check.due("n 5", x.looseRows(5), Check.NONE);
            Check.due("n 0", x.looseRows(0), 1);
        }
    }

    // how many rows of n CROSSINGS 0 .. 4 of those who are LEFT are LOOSE
    private static void promise25HowMany() {
        // with g PLACES to cross at and c pairs of these 2 apart at least: 2g rows of 2, 2g (4g - 1) + 8c rows of 4
        int[] apart = {0, 0, 0, 0, 1, 3, 6};
        for (int dancers = 0; dancers <= 6; dancers++) {
            int places = Math.max(0, dancers - 1);
            MaypoleRegister x = Check.withDancers(dancers);
            Check.due("rows of 0", x.looseRows(0), 1);
            Check.due("rows of 1", x.looseRows(1), 0);
            Check.due("rows of 2", x.looseRows(2), 2 * places);
            Check.due("rows of 3", x.looseRows(3), 0);
            Check.due("rows of 4 by " + dancers, x.looseRows(4), places == 0 ? 0 : 2 * places * (4 * places - 1) + 8 * apart[dancers]);
        }
        MaypoleRegister x = danced(6, 0, 8);
        x.letGo(3);
        x.letGo(0);
        Check.due("rows of four who are left", x.looseRows(4), 74);
        x.letGo(1);
        x.letGo(2);
        Check.due("rows of two", x.looseRows(4), 6);
        x.letGo(4);
        Check.due("rows of one", x.looseRows(4), 0);
        Check.due("the empty row of one", x.looseRows(0), 1);
        x.letGo(5);
        Check.due("the empty row of nobody", x.looseRows(0), 1);
        x = Check.with("dancer a;dancer b;law may 0;");
        Check.due("whatever the laws", x.looseRows(2), 2);
    }

    // NONE: no such three, two alike, one isn't LEFT.
    private static void promise26NoSuchThree() {
        MaypoleRegister x = Check.withDancers(4);
        for (int number : NO_NUMBERS) {
            Check.due("first " + number, x.tied(number, 1, 2), Check.NONE);
            Check.due("second " + number, x.tied(0, number, 2), Check.NONE);
            Check.due("third " + number, x.tied(0, 1, number), Check.NONE);
        }
        Check.due("first 4", x.tied(4, 1, 2), Check.NONE);
        Check.due("second 4", x.tied(0, 4, 2), Check.NONE);
        Check.due("third 4", x.tied(0, 1, 4), Check.NONE);
        Check.due("the first two alike", x.tied(1, 1, 2), Check.NONE);
        Check.due("the last two alike", x.tied(2, 1, 1), Check.NONE);
        Check.due("the first and the last alike", x.tied(1, 2, 1), Check.NONE);
        Check.due("all alike", x.tied(1, 1, 1), Check.NONE);
        Check.due("the last three", x.tied(1, 2, 3), 0);
        x.letGo(2);
        Check.due("first isn't left", x.tied(2, 1, 3), Check.NONE);
        Check.due("second isn't left", x.tied(1, 2, 3), Check.NONE);
        Check.due("third isn't left", x.tied(1, 3, 2), Check.NONE);
        Check.due("the three who are left", x.tied(0, 1, 3), 0);
        x.letGo(0);
        Check.due("two are left", x.tied(0, 1, 3), Check.NONE);
        Check.due("two alone", Check.withDancers(2).tied(0, 1, 2), Check.NONE);
    }

    // if no two of them are BOUND, but the PLAIT .. isn't LOOSE
    private static void promise26NoTwoAreBound() {
        MaypoleRegister x = danced(3, 0, 3, 0, 3, 0, 3);
        int[][] orders = {{0, 1, 2}, {0, 2, 1}, {1, 0, 2}, {1, 2, 0}, {2, 0, 1}, {2, 1, 0}};
        for (int[] order : orders) {
            Check.due("tied in each order", x.tied(order[0], order[1], order[2]), 1);
        }
        Check.cross(x, 0, 0);
        Check.due("a and b are bound", x.tied(0, 1, 2), 0);
        Check.cross(x, 1, 1);
        Check.due("they aren't again", x.tied(2, 1, 0), 1);
        Check.cross(x, 2, 2);
        Check.due("b and c are bound", x.tied(0, 1, 2), 0);
        Check.cross(x, 3, 3, 0, 2, 2, 1);
        Check.due("a and c are bound", x.tied(0, 1, 2), 0);
        Check.due("it isn't loose without them", danced(3, 0, 0).tied(0, 1, 2), 0);
        Check.due("nobody is bound, loose", danced(3, 0, 2, 3, 1).tied(0, 1, 2), 0);
        Check.due("nobody is bound, loose by slides", danced(3, 0, 2, 0, 3, 1, 3).tied(0, 1, 2), 0);
        Check.due("not loose is enough", danced(3, 0, 0, 2, 2, 1, 1, 3, 3).tied(0, 1, 2), 1);
        x = Check.withDancers(3);
        for (int i = 0; i < 24; i++) {
            Check.cross(x, 0, 3);
        }
        Check.due("48", x.tied(0, 1, 2), 1);
    }

    // the PLAIT that is there when all others have let go
    private static void promise26AllOthersHaveLetGo() {
        // b, d and f are tied, the others dance among them
        MaypoleRegister x = danced(6, 0, 6, 0, 6, 0, 6);
        Check.due("no three are tied", x.tied(1, 3, 5), 0);
        x = danced(4, 0, 3, 0, 3, 0, 3, 4, 4);
        Check.due("c is bound to d", x.bond(2, 3), 2);
        Check.due("a, b, c are tied", x.tied(0, 1, 2), 1);
        Check.due("a, b, d aren't", x.tied(0, 1, 3), 0);
        x = danced(4, 2, 5, 2, 5, 2, 5, 0, 0);
        Check.due("b, c, d are tied", x.tied(1, 2, 3), 1);
        Check.due("a, c, d aren't", x.tied(0, 2, 3), 0);
        Check.due("a and b are bound", x.tied(0, 1, 2), 0);
        Check.due("the plait stays", x.count(5), 8);
        Check.due("all are left", x.count(1), 4);
        Check.due("8 can be undone", x.count(13), 8);
        x = danced(6, 6, 9, 6, 9, 6, 9);
        Check.due("d, e, f are tied", x.tied(3, 4, 5), 1);
        Check.due("c, e, f aren't", x.tied(2, 4, 5), 0);
        x.letGo(0);
        x.letGo(2);
        Check.due("tied still", x.tied(5, 3, 4), 1);
        x.letGo(4);
        Check.due("one let go", x.tied(5, 3, 4), Check.NONE);
        Check.due("the others aren't tied", x.tied(1, 3, 5), 0);
        // four who are tied though no three are
        x = danced(4, 0, 0, 2, 2, 1, 1, 3, 3, 4, 4, 2, 2, 0, 0, 3, 3, 1, 1, 5, 5);
        Check.due("not loose", x.isLoose(), false);
        Check.due("nobody is bound", x.count(9), 0);
        Check.due("b, c, d alone are loose", x.tied(1, 2, 3), 0);
        Check.due("a, b, d alone are loose", x.tied(0, 1, 3), 0);
        Check.due("a, b, c alone are loose", x.tied(0, 1, 2), 0);
    }

    // NONE: no such DANCER, not LEFT.
    private static void promise27NoSuchDancer() {
        MaypoleRegister x = Check.withDancers(6);
        for (int dancer : NO_NUMBERS) {
            Check.due("freed " + dancer, x.freed(dancer), Check.NONE);
        }
        Check.due("6", x.freed(6), Check.NONE);
        Check.due("32", x.freed(32), Check.NONE);
        Check.due("5", x.freed(5), 0b011111);
        x.letGo(5);
        Check.due("5 isn't left", x.freed(5), Check.NONE);
        Check.due("0", x.freed(0), 0b011110);
        Check.due("one alone", Check.withDancers(1).freed(0), 0);
        Check.due("1 of one", Check.withDancers(1).freed(1), Check.NONE);
    }

    // who is FREE when that one has let go
    private static void promise27WhoIsFree() {
        MaypoleRegister x = danced(6, 0, 2, 4, 6, 8);
        Check.due("a frees all", x.freed(0), 0b111110);
        for (int dancer = 1; dancer < 6; dancer++) {
            Check.due("nobody else does", x.freed(dancer), 0);
        }
        Check.due("all are left", x.count(1), 6);
        Check.due("the plait stays", x.count(5), 5);
        x = danced(4, 0, 0, 5, 5);
        Check.due("a frees b", x.freed(0), 0b0010);
        Check.due("b frees a", x.freed(1), 0b0001);
        Check.due("c frees d", x.freed(2), 0b1000);
        Check.due("d frees c", x.freed(3), 0b0100);
        x.letGo(2);
        Check.due("d is free already", x.freed(0), 0b1010);
        Check.due("d frees nobody", x.freed(3), 0);
        x = danced(3, 0, 3, 0, 3, 0, 3);
        Check.due("tied, yet free", x.freed(1), 0b101);
    }

    /** No search leaves anything for the next one. */
    private static void promise23To25OneBehindAnother() {
        int[][] orders = {{0, 1, 2}, {0, 2, 1}, {1, 0, 2}, {1, 2, 0}, {2, 0, 1}, {2, 1, 0}};
        for (int[] order : orders) {
            MaypoleRegister x = danced(4, 0, 2);
            for (int round = 0; round < 2; round++) {
                for (int which : order) {
                    if (which == 0) {
                        Check.due("back", x.danceBack(0) * 100 + x.danceBack(1) * 10 + x.danceBack(2), 231);
                        Check.due("no third", x.danceBack(3), -2);
                    } else if (which == 1) {
                        Check.due("make", x.make(0b101000, 0) * 100 + x.make(0b101000, 1) * 10 + x.make(0b101000, 3), 424);
                        Check.due("make by none", x.make(0b111111, 1), -2);
                        Check.due("make of none", x.make(0, 0), 0);
                        MaypoleRegister tied = danced(3, 0, 3, 0, 3, 0, 3);
                        Check.due("make of none", tied.make(0, 0), 0);
                        Check.due("nobody is bound, but it isn't loose", tied.danceBack(0), -2);
                    } else {
                        Check.due("loose rows", x.looseRows(4), 74);
                        Check.due("loose rows", x.looseRows(2), 6);
                    }
                }
            }
        }
    }
}
