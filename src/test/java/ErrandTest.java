/** Promises 19 to 22, 35 and 36: WAYS, who can LIVE where, PLAIN DAYS, TURNS and THIEVES. */
public final class ErrandTest {
    private static void way(String errands, int fewest, int... order) {
        ThreadTown town = Check.town("town 6 6;man z 5 5;man a 0 0;" + errands);
        Check.due("way of " + errands, fewest, town.way(1));
        for (int i = 0; i < order.length; i++) {
            Check.due("way of " + errands + " at " + i, order[i], town.wayAt(1, i));
        }
        Check.due("not so many", -1, town.wayAt(1, order.length));
        Check.due("i -1", -1, town.wayAt(1, -1));
        Check.due("another's", 0, town.way(0));
        Check.due("another's at 0", -1, town.wayAt(0, 0));
    }

    private static void ways() {
        way("", 0);
        way("errand a 0 0;", 0, 0);
        way("errand a 5 5;", 10, 0);
        way("errand a 4 0;errand a 0 1;errand a 2 0;", 6, 1, 2, 0);
        way("errand a 0 1;errand a 1 0;", 3, 0, 1);
        way("errand a 1 1;errand a 1 1;errand a 1 1;", 2, 0, 1, 2);
        way("errand a 5 0;errand a 4 0;errand a 3 0;errand a 2 0;errand a 1 0;errand a 0 0;", 5,
            5, 4, 3, 2, 1, 0);
        way("errand a 2 2;errand a 1 0;errand a 0 1;", 6, 1, 2, 0);
        for (int man : new int[] {-1, 2, Integer.MIN_VALUE}) {
            ThreadTown town = Check.town("man a 0 0;man b 0 0;");
            Check.due("way of none", -1, town.way(man));
            Check.due("wayAt of none", -1, town.wayAt(man, 0));
            Check.due("lives of none", -1, town.lives(man));
        }
        ThreadTown town = Check.town("man a 0 0;errand a 3 0;");
        Check.steps(town, "a222");
        Check.due("from his DOOR", 3, town.way(0));
    }

    private static void lives(String text, int due) {
        Check.due("lives " + text, due, Check.town(text).lives(0));
    }

    private static void homes() {
        lives("town 3 3;man a 0 0;errand a 1 1;long = 1;", 5);
        lives("town 3 3;man a 0 0;long = 0;", 9);
        lives("town 3 3;man a 0 0;errand a 1 2;long = 0;", 1);
        lives("town 3 3;man a 0 0;errand a 0 0;errand a 2 0;long = 2;", 2);
        lives("town 3 3;man a 0 0;errand a 0 0;errand a 2 0;long = 1;", 0);
        lives("town 3 3;man a 0 0;errand a 0 0;errand a 2 0;long = 3;", 5);
        lives("town 12 12;man a 0 0;errand a 11 11;", 144);
        lives("town 12 12;man a 0 0;errand a 11 11;long = 21;", 143);
        ThreadTown town = Check.town("town 3 3;man a 1 1;errand a 1 1;long = x;");
        Check.due("as LONG as his", 5, town.lives(0));
        Check.steps(town, "a1");
        Check.due("not what is LEFT", 5, town.lives(0));
    }

    private static void plain(String text, int times, int choices) {
        ThreadTown town = Check.town(text);
        Check.due("plain " + text, times, town.plain(0));
        Check.due("choices " + text, choices, town.plain(1));
        Check.due("plain -1", -1, town.plain(-1));
        Check.due("plain 2", -1, town.plain(2));
    }

    private static void plainDays() {
        plain("", 0, 0);
        plain("man a 0 0;man b 0 0;", 0, 0);
        plain("man a 0 0;errand a 2 2;man b 1 0;errand b 2 2;long = 0;", 0, 1);
        plain("man b 1 0;errand b 2 2;man a 0 0;errand a 2 2;", 0, 1);
        plain("man a 0 0;errand a 3 0;man b 0 0;errand b 3 0;man c 0 0;errand c 3 0;", 9, 0);
        plain("town 4 2;man a 2 0;errand a 1 0;errand a 3 0;man b 1 0;errand b 3 0;", 3, 0);
        plain("man a 1 0;errand a 2 0;man b 1 0;errand b 2 2;", 0, 2);
        ThreadTown town = Check.town("man a 0 0;errand a 2 0;man b 0 0;errand b 2 0;");
        Check.steps(town, "a1b11");
        town.cut(1);
        Check.due("from their DOORS, whatever was", 2, town.plain(0));
        Check.due("nothing happened", 1, town.count(4));
    }

    private static void turns() {
        ThreadTown town = Check.town("town 5 5;man a 1 1;man b 1 1;pillar 1 1;pillar 0 1;pillar 2 1;pillar 1 0;"
            + "pillar 1 2;");
        int[] none = {0, 0, 0, 0, 0};
        rowOfTurns(town, 0, none);
        Check.steps(town, "a2143");
        rowOfTurns(town, 0, 1, 0, 0, 0, 0);
        Check.due("no THIEVES", 0, town.thieves());
        Check.steps(town, "a2143");
        rowOfTurns(town, 0, 2, 0, 0, 0, 0);
        Check.steps(town, "b1234");
        rowOfTurns(town, 1, -1, 0, 0, 0, 0);
        Check.due("THIEVES", 2, town.thieves());
        Check.steps(town, "a223");
        Check.due("out of the TOWN's edge", false, town.step(0, 3));
        rowOfTurns(town, 0, 2, 0, 0, -1, 0);
        Check.due("both", 3, town.thieves());
        town.cut(0);
        Check.due("CUT is no THIEF", 2, town.thieves());
        for (int[] row : new int[][] {{0, -1}, {0, 5}, {-1, 0}, {2, 0}, {0, Integer.MAX_VALUE}}) {
            Check.due("no such ones", -1000, town.turns(row[0], row[1]));
        }
    }

    private static void rowOfTurns(ThreadTown town, int man, int... due) {
        for (int i = 0; i < due.length; i++) {
            Check.due("turns " + man + " about " + i, due[i], town.turns(man, i));
        }
    }

    public static void main(String[] args) {
        ways();
        homes();
        plainDays();
        turns();
        Check.finish();
    }
}
