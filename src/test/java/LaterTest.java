/** Promises 23, 26, 27 and 39 to 41: who MEETS whom, DUSK, BEST RULE, what is TOLD, STARTS. */
public final class LaterTest {
    private static void meeting() {
        ThreadTown town = Check.town("man a 0 0;man b 4 0;man c 0 0;goes a = 2;goes b = 4;");
        Check.due("in the middle", 2, town.meet(0, 1));
        Check.due("the other way round", 2, town.meet(1, 0));
        Check.due("at once", 0, town.meet(0, 2));
        Check.due("at the end", 4, town.meet(1, 2));
        Check.due("nothing happened", 0, town.count(3));
        Check.due("nothing lies", 0, town.count(4));
        town.cut(0);
        Check.due("LOST stays", 4, town.meet(0, 1));
        for (int[] row : new int[][] {{0, 0}, {-1, 0}, {0, 3}, {3, 0}, {0, -1}}) {
            Check.due("no such ones", -1, town.meet(row[0], row[1]));
        }
        Check.due("not", -2, Check.town("man a 0 0;man b 0 1;").meet(0, 1));
        String late = "man a 0 0;man b 1 0;goes b = if minute < ";
        Check.due("in the last minute", 200, Check.town(late + "199 then 0 else 4;").meet(0, 1));
        Check.due("too late", -2, Check.town(late + "200 then 0 else 4;").meet(0, 1));
        town = Check.town(late + "250 then 0 else 4;");
        town.run(60);
        Check.due("from now on", 191, town.meet(0, 1));
    }

    private static void dusk(ThreadTown town, int rule, int... due) {
        for (int what = 0; what < due.length; what++) {
            Check.due("dusk " + rule + " what " + what, due[what], town.dusk(rule, what));
        }
    }

    private static void dusks() {
        ThreadTown town = Check.town("man a 0 0;man b 0 0;man c 0 0;");
        dusk(town, 0, 0, 0, 7, 0);
        Check.due("best of nothing", 0, town.bestDusk());
        Check.steps(town, "a1b1c1");
        dusk(town, 0, 3, 3, 7, 0);
        dusk(town, 1, 3, 3, 7, 0);
        dusk(town, 2, 3, 3, 7, 0);
        dusk(town, 3, 1, 3, 7, 0);
        Check.due("best", 3, town.bestDusk());
        Check.due("nothing happened", 3, town.count(4));
        for (int[] row : new int[][] {{-1, 0}, {5, 0}, {0, -1}, {0, 4}, {Integer.MIN_VALUE, 0}}) {
            Check.due("no such ones", -1, town.dusk(row[0], row[1]));
        }
        town = Check.town("man a 0 0;man b 0 0;man c 0 0;long = 5 + rank;");
        Check.steps(town, "a1b1c1");
        dusk(town, 2, 1, 3, 7, 0);
        Check.due("the first of alike ones", 2, town.bestDusk());
        town = Check.town("man a 0 0;man b 0 0;man c 0 0;");
        Check.steps(town, "a1b11c111");
        dusk(town, 0, 5, 6, 7, 0);
        dusk(town, 1, 5, 6, 7, 0);
        dusk(town, 3, 3, 6, 7, 0);
        town = Check.town("man a 0 0;man b 2 1;man c 4 1;");
        Check.steps(town, "a222b32c344");
        dusk(town, 0, 5, 8, 7, 0);
        dusk(town, 1, 4, 8, 7, 0);
        dusk(town, 2, 4, 8, 7, 0);
        dusk(town, 3, 3, 8, 7, 0);
    }

    private static void duskByLot() {
        ThreadTown town = Check.town("seed 7;man a 0 0;man b 0 0;man c 0 0;");
        Check.steps(town, "a1c1b1");
        dusk(town, 0, 2, 3, 7, 0);
        dusk(town, 4, 1, 3, 7, 0);
        Check.due("run", 1, town.run(1));
        dusk(town, 4, 2, 3, 7, 0);
        Check.due("cut", 1, town.cut(1));
        dusk(town, 4, 2, 2, 5, 0);
    }

    private static void telling() {
        ThreadTown town = Check.town("man a 0 0;man b 0 0;");
        Check.due("one and the same", -1, town.tell(0, 0, true));
        Check.due("no such one", -1, town.tell(-1, 0, true));
        Check.due("no such other", -1, town.tell(0, 2, false));
        for (int i = 0; i < 12; i++) {
            Check.due("tell", i, town.tell(i % 2, 1 - i % 2, i < 6));
        }
        Check.due("the thirteenth", -1, town.tell(0, 1, true));
        Check.due("TOLD", 12, town.count(10));
        Check.due("forget", 12, town.forget());
        Check.due("forget again", 0, town.forget());
        Check.due("tell anew", 0, town.tell(0, 1, true));
    }

    private static void starting() {
        ThreadTown town = Check.town("man a 0 0;man b 1 0;goes a = 2;goes b = 4;");
        town.tell(0, 1, true);
        Check.due("nothing KNOWN", 4, town.starts(1, 1, 0));
        Check.due("a over b in one", 0, town.starts(1, 1, 1));
        Check.due("a over b in two", 1, town.starts(1, 2, 1));
        Check.due("in none", 0, town.starts(1, 0, 1));
        town.tell(1, 0, false);
        Check.due("and not b over a", 1, town.starts(1, 2, 2));
        Check.due("the first alone", 1, town.starts(1, 2, 1));
        town.tell(1, 0, true);
        Check.due("that can't be", 0, town.starts(1, 2, 3));
        town.forget();
        town.tell(1, 0, true);
        Check.due("b over a in two", 3, town.starts(1, 2, 1));
        Check.due("b over a in one", 1, town.starts(1, 1, 1));
        Check.due("all in minute 0", 1, town.starts(0, 1, 1));
        Check.steps(town, "a1");
        town.cut(1);
        town.run(7);
        Check.due("from the text's begin", 3, town.starts(1, 2, 1));
        Check.due("nothing happened", 8, town.count(3) + town.count(5));
        for (int[] row : new int[][] {{-1, 1, 0}, {4, 1, 0}, {1, -1, 0}, {1, 41, 0}, {1, 1, -1}, {1, 1, 2}}) {
            Check.due("no such ones", -1, town.starts(row[0], row[1], row[2]));
        }
        Check.due("most that can be", 16, town.starts(3, 40, 0));
        town = Check.town("man a 0 0;man b 1 0;goes a = if minute < 1 then 2 else 0;"
            + "goes b = if minute < 1 then 4 else 0;");
        town.tell(1, 0, true);
        Check.due("his own minute", 10, town.starts(3, 4, 1));
        town.forget();
        town.tell(0, 1, true);
        Check.due("the others", 6, town.starts(3, 4, 1));
    }

    private static void startsByLot() {
        // By seed 7 MAN 0 has LOT 32 and MAN 1 has LOT 53 in his minute 1.
        ThreadTown town = Check.town("seed 7;man a 0 0;man b 1 0;"
            + "goes a = if lot < 32 then 0 else if lot < 33 then 2 else 0;"
            + "goes b = if lot < 53 then 0 else if lot < 54 then 4 else 0;");
        town.tell(0, 1, true);
        Check.due("a over b by their LOTS", 3, town.starts(2, 4, 1));
        town.forget();
        town.tell(1, 0, true);
        Check.due("b over a by their LOTS", 6, town.starts(2, 4, 1));
        Check.due("in two minutes", 1, town.starts(2, 2, 1));
    }

    private static void manyRows() {
        StringBuilder text = new StringBuilder();
        int[][] due = {{1, 1, 1, 1}, {1, 2, 3, 4}, {1, 4, 9, 16}, {1, 8, 27, 64}, {1, 16, 81, 256},
            {1, 32, 243, -2}, {1, 64, 729, -2}, {1, 128, -2, -2}};
        for (int men = 0; men < 8; men++) {
            ThreadTown town = Check.town(text.toString());
            for (int m = 0; m < 4; m++) {
                Check.due("rows of " + men + " to " + m, due[men][m], town.starts(m, 3, 0));
            }
            Check.due("no such ones first", -1, town.starts(3, 3, 1));
            text.append("man ").append((char) ('a' + men)).append(" 0 0;");
        }
    }

    public static void main(String[] args) {
        meeting();
        dusks();
        duskByLot();
        telling();
        starting();
        startsByLot();
        manyRows();
        Check.finish();
    }
}
