/** Promises 23 to 27: the fewest crossings back, what binds pairs, loose rows, who is tied, who is freed. */
public final class SearchTests {
    public static void main(String[] args) {
        promise23DanceBack();
        promise23DanceBackOfLongPlaits();
        promise24Make();
        promise24MakeOfMany();
        promise25LooseRows();
        promise26Tied();
        promise27Freed();
        Check.finish("SearchTests");
    }

    private static void dueBack(int dancers, int[] codes, int... want) {
        MaypoleRegister x = Check.withDancers(dancers);
        Check.cross(x, codes);
        dueBack(x, want);
        Check.duePlait("stays", x, codes);
    }

    /** The answers of BACK with these codes; those behind the last one are -2. */
    private static void dueBack(MaypoleRegister x, int... want) {
        Check.due("back by how many", x.danceBack(0), want.length);
        for (int i = 1; i <= 3; i++) {
            Check.due("back code " + i, x.danceBack(i), i <= want.length ? want[i - 1] : -2);
        }
        Check.due("what 4", x.danceBack(4), Check.NONE);
        Check.due("what below 0", x.danceBack(-1), Check.NONE);
    }

    private static void dueNoBack(int dancers, int... codes) {
        MaypoleRegister x = Check.withDancers(dancers);
        Check.cross(x, codes);
        for (int what = 0; what <= 3; what++) {
            Check.due("back by none " + what, x.danceBack(what), -2);
        }
        Check.due("what 4", x.danceBack(4), Check.NONE);
        Check.due("what below 0", x.danceBack(-1), Check.NONE);
    }

    private static int[] row(int... codes) {
        return codes;
    }

    private static void promise23DanceBack() {
        dueBack(new MaypoleRegister());
        dueBack(3, row());
        dueBack(3, row(0, 1));
        dueBack(3, row(0), 1);
        dueBack(3, row(3), 2);
        dueBack(2, row(0, 0, 0), 1, 1, 1);
        dueBack(3, row(0, 2), 3, 1);
        dueBack(4, row(0, 4), 1, 5);
        dueBack(4, row(4, 0), 1, 5);
        dueBack(4, row(4, 1), 0, 5);
        dueBack(3, row(0, 2, 0), 1, 3, 1);
        dueBack(3, row(2, 0, 2), 1, 3, 1);
        dueBack(3, row(1, 3, 1), 0, 2, 0);
        dueBack(3, row(0, 2, 1), 0, 3, 1);
        dueBack(6, row(8, 4, 0), 1, 5, 9);
        dueNoBack(2, 0, 0, 0, 0);
        dueNoBack(2, 1, 1, 1, 1);
        dueNoBack(3, 0, 3, 0, 3, 0, 3);
        dueNoBack(3, 0, 3, 0, 3);
        dueNoBack(4, 0, 2, 4, 3);
    }

    private static void promise23DanceBackOfLongPlaits() {
        MaypoleRegister x = Check.withDancers(3);
        for (int i = 0; i < 24; i++) {
            Check.cross(x, 2, 3);
        }
        dueBack(x);
        x = Check.withDancers(3);
        for (int i = 0; i < 23; i++) {
            Check.cross(x, 2, 3);
        }
        Check.cross(x, 0, 3);
        // danced behind the plait in thought only: 48 is no bound for it
        dueBack(x, 2, 1);
        Check.due("crossings stay", x.count(5), 48);
    }

    private static void dueMake(MaypoleRegister x, int pairs, int... want) {
        Check.due("make " + pairs, x.make(pairs, 0), want.length);
        for (int i = 1; i <= 4; i++) {
            Check.due("make " + pairs + " code " + i, x.make(pairs, i), i <= want.length ? want[i - 1] : -2);
        }
        Check.due("what 5", x.make(pairs, 5), Check.NONE);
        Check.due("what below 0", x.make(pairs, -1), Check.NONE);
    }

    private static void dueNoMake(MaypoleRegister x, int pairs, int want) {
        for (int what = 0; what <= 4; what++) {
            Check.due("make " + pairs + " what " + what, x.make(pairs, what), want);
        }
    }

    private static void promise24Make() {
        MaypoleRegister x = Check.withDancers(4);
        dueMake(x, 0);
        dueMake(x, 0b000001, 0, 0);
        dueMake(x, 0b001000, 2, 2);
        dueMake(x, 0b100000, 4, 4);
        dueMake(x, 0b000010, 0, 2, 2, 1);
        dueMake(x, 0b010000, 2, 4, 4, 3);
        dueNoMake(x, 0b000100, -2);
        dueMake(x, 0b001001, 0, 0, 2, 2);
        dueMake(x, 0b100001, 0, 0, 4, 4);
        dueMake(x, 0b101000, 2, 2, 4, 4);
        dueNoMake(x, 0b010001, -2);
        dueNoMake(x, 0b001011, -2);
        dueNoMake(x, 0b111111, -2);
        dueNoMake(x, 0b1000000, Check.NONE);
        dueNoMake(x, -1, Check.NONE);
        dueNoMake(x, Integer.MIN_VALUE, Check.NONE);
        dueNoMake(x, Integer.MAX_VALUE, Check.NONE);
        Check.cross(x, 0, 0, 2);
        dueMake(x, 0b001000, 2, 2);
        Check.duePlait("stays", x, 0, 0, 2);
        // places count, not the numbers of the dancers
        x.letGo(1);
        dueMake(x, 0b001, 0, 0);
        dueMake(x, 0b100, 2, 2);
        dueMake(x, 0b010, 0, 2, 2, 1);
        dueMake(x, 0b101, 0, 0, 2, 2);
    }

    private static void promise24MakeOfMany() {
        MaypoleRegister x = Check.withDancers(6);
        dueMake(x, 1 << 14, 8, 8);
        dueMake(x, 1 | 1 << 14, 0, 0, 8, 8);
        dueNoMake(x, 1 << 4, -2);
        dueNoMake(x, 1 << 15, Check.NONE);
        dueNoMake(new MaypoleRegister(), 1, Check.NONE);
        dueMake(new MaypoleRegister(), 0);
        dueMake(Check.withDancers(1), 0);
        dueNoMake(Check.withDancers(1), 1, Check.NONE);
        dueMake(Check.withDancers(2), 1, 0, 0);
        dueNoMake(Check.withDancers(2), 2, Check.NONE);
    }

    private static void promise25LooseRows() {
        int[][] want = {
            {1, 0, 0, 0, 0}, {1, 0, 0, 0, 0}, {1, 0, 2, 0, 6}, {1, 0, 4, 0, 28},
            {1, 0, 6, 0, 74}, {1, 0, 8, 0, 144}, {1, 0, 10, 0, 238}};
        for (int dancers = 0; dancers <= 6; dancers++) {
            MaypoleRegister x = Check.withDancers(dancers);
            for (int n = 0; n <= 4; n++) {
                Check.due("loose rows of " + n + " by " + dancers, x.looseRows(n), want[dancers][n]);
            }
        }
        MaypoleRegister x = Check.withDancers(4);
        Check.cross(x, 0, 2);
        Check.due("the plait doesn't matter", x.looseRows(2), 6);
        x.letGo(3);
        Check.due("who is left does", x.looseRows(2), 4);
        Check.due("the plait stays", x.count(5), 2);
        Check.due("n 5", x.looseRows(5), Check.NONE);
        Check.due("n below 0", x.looseRows(-1), Check.NONE);
        Check.due("most", x.looseRows(Integer.MAX_VALUE), Check.NONE);
    }

    private static void promise26Tied() {
        MaypoleRegister x = Check.withDancers(4);
        Check.due("no crossings", x.tied(0, 1, 2), 0);
        Check.cross(x, 0, 3, 0, 3, 0, 3);
        Check.due("tied", x.tied(0, 1, 2), 1);
        Check.due("in another order", x.tied(2, 0, 1), 1);
        Check.due("with the fourth", x.tied(0, 1, 3), 0);
        Check.due("two alike", x.tied(0, 0, 1), Check.NONE);
        Check.due("two alike", x.tied(0, 1, 0), Check.NONE);
        Check.due("two alike", x.tied(1, 0, 0), Check.NONE);
        Check.due("no such one", x.tied(0, 1, 4), Check.NONE);
        Check.due("below 0", x.tied(-1, 1, 2), Check.NONE);
        Check.due("no such second", x.tied(0, 9, 2), Check.NONE);
        MaypoleRegister z = Check.withDancers(4);
        Check.cross(z, 0, 0);
        Check.due("the first one lets go in thought", z.tied(1, 2, 3), 0);
        Check.due("the second one lets go in thought", z.tied(0, 2, 3), 0);
        Check.cross(z, 2, 5, 2, 5, 2, 5);
        Check.due("tied but for the first one", z.tied(1, 2, 3), 1);
        // the fourth dances round them, which the three don't mind
        Check.cross(x, 4, 4);
        Check.due("the fourth lets go in thought", x.tied(0, 1, 2), 1);
        Check.due("bound to the fourth", x.tied(0, 2, 3), 0);
        Check.due("all are left", x.count(1), 4);
        Check.due("crossings stay", x.count(5), 8);
        x.letGo(3);
        Check.due("one isn't left", x.tied(0, 1, 3), Check.NONE);
        Check.due("still tied", x.tied(0, 1, 2), 1);
        Check.cross(x, 0, 0);
        Check.due("two are bound", x.tied(0, 1, 2), 0);
        x = Check.withDancers(3);
        Check.cross(x, 0);
        Check.due("bound", x.tied(0, 1, 2), 0);
        Check.cross(x, 1, 2, 3);
        Check.due("loose", x.tied(0, 1, 2), 0);
        x = Check.withDancers(3);
        Check.cross(x, 0, 3, 0, 3, 0, 3, 2, 3);
        Check.due("tied with more behind", x.tied(0, 1, 2), 1);
    }

    private static void promise27Freed() {
        MaypoleRegister x = Check.withDancers(4);
        Check.due("all are free", x.freed(0), 0b1110);
        Check.due("all are free", x.freed(3), 0b0111);
        Check.cross(x, 0, 0, 2, 2);
        // 0 and 1 are bound, 1 and 2 are bound
        Check.due("0 lets go", x.freed(0), 0b1000);
        Check.due("1 lets go", x.freed(1), 0b1101);
        Check.due("2 lets go", x.freed(2), 0b1000);
        Check.due("3 lets go", x.freed(3), 0);
        Check.due("no such dancer", x.freed(4), Check.NONE);
        Check.due("below 0", x.freed(-1), Check.NONE);
        Check.due("all are left", x.count(1), 4);
        x.letGo(1);
        Check.due("not left", x.freed(1), Check.NONE);
        Check.due("0 lets go now", x.freed(0), 0b1100);
    }
}
