/** Promises 6 and 12 once more: LAWS, LOTS, how LONG threads are, and how MINUTES go by. */
public final class LawTest {
    private static void goes(String law, int due) {
        ThreadTown town = Check.town("town 4 5;man z 0 0;man a 2 3;goes a = " + law + ";long = 20;");
        Check.due("goes " + law, due, town.man(1, 6));
    }

    private static void longs(String law, int due) {
        ThreadTown town = Check.town("town 4 5;man z 0 0;man a 2 3;seed 77;long = " + law + ";");
        Check.due("long " + law, due, town.man(1, 3));
    }

    private static void values() {
        goes("1 + 2 * 2", 5);
        goes("(1 + 2) * 2", 0);
        goes("9 - 3 - 2", 4);
        goes("9 - (3 - 2)", 2);
        goes("16 / 4 / 2", 2);
        goes("16 / (4 / 2)", 2);
        goes("3 * 7 / 2", 4);
        goes("10 - 2 * 3 + 1", 5);
        goes("x", 2);
        goes("y", 3);
        goes("left", 2);
        goes("rank", 1);
        goes("minute", 0);
        goes("6", 0);
        goes("7", 1);
        goes("0 - 1", 0);
        goes("0 - 6", 0);
        goes("(0 - 7) / 2 + 5", 2);
        goes("(0 - 7) / 2 * 2 + 10", 4);
        goes("1 / 0", 0);
        goes("1 + 2 / (x - 2)", 0);
        goes("if x < y then 4 else 3", 4);
        goes("if y < x then 4 else 3", 3);
        goes("if x < 2 then 4 else 3", 3);
        goes("if 5 < 1 then 1 else if 1 < 5 then 2 else 3", 2);
        goes("if 5 < 1 then 1 else if 5 < 1 then 2 else 3", 3);
        goes("if 5 < 1 then 1 else if 5 < 2 then 2 else if 5 < 3 then 3 else if 5 < 6 then 4 else 5", 4);
        goes("if 1 / 0 < 1 then 4 else 3", 0);
        goes("if 1 < 2 then 4 else 1 / 0", 4);
        goes("if 2 < 1 then 1 / 0 else 4", 4);
        goes("if 1 < 2 then 1 / 0 else 4", 0);
        goes("9999 * 9999 * 9999 * 9999 / 9999 + 9999", (int) (wrapped() % 6));
    }

    private static long wrapped() {
        int all = 9999;
        for (int i = 0; i < 3; i++) {
            all *= 9999;
        }
        return Math.max(0, all / 9999 + 9999);
    }

    private static void lengths() {
        longs("0", 0);
        longs("60", 60);
        longs("61", 60);
        longs("0 - 1", 0);
        longs("x * 10 + y", 23);
        longs("rank + 4", 5);
        longs("5 + minute + left + lot", 5);
        longs("7 / minute", 0);
        longs("7 / lot", 0);
        longs("if rank < 1 then 9 else 8", 8);
    }

    private static void lots() {
        ThreadTown town = Check.town("man a 0 0;man b 0 0;man c 0 0;seed 7;goes a = lot;goes b = lot;"
            + "long = 60;town 2 2;");
        int[] first = {4, 2, 3, 5, 0, 2, 1, 5, 5, 0, 1, 3};
        int[] second = {3, 5, 0, 0, 4, 3, 3, 4, 2, 3, 5, 0};
        for (int minute = 0; minute < 12; minute++) {
            Check.due("lot " + minute, first[minute], town.man(0, 6));
            Check.due("his lot " + minute, second[minute], town.man(1, 6));
            Check.due("run", minute + 1, town.run(1));
        }
        int[] exact = {24, 89, 61};
        for (int man = 0; man < 3; man++) {
            String law = "goes a = if lot < " + exact[man] + " then 1 else if lot < " + (exact[man] + 1)
                + " then 2 else 3;";
            StringBuilder ahead = new StringBuilder();
            for (int i = 0; i < man; i++) {
                ahead.append("man ").append((char) ('b' + i)).append(" 0 0;");
            }
            Check.due("lot exactly", 2, Check.town(ahead + "man a 0 0;" + law).man(man, 6));
        }
    }

    private static void minutes() {
        ThreadTown town = Check.town("town 3 3;man a 0 0;man b 0 0;long = 3;"
            + "goes a = if minute < 2 then 2 else 5;goes b = if minute < 1 then 2 else 0;");
        Check.due("one", 1, town.run(1));
        Check.due("b lies over a", 1, town.over(1, 0));
        Check.due("two", 2, town.run(1));
        Check.due("a is at the end", 2, town.man(0, 0));
        Check.due("three", 3, town.run(1));
        Check.due("a came back", 1, town.man(0, 0));
        Check.due("four", 4, town.run(1));
        Check.due("b lies on him", 1, town.man(0, 0));
        Check.due("b winds", true, town.wind(1));
        Check.due("five", 5, town.run(1));
        Check.due("a is at his DOOR", 0, town.man(0, 0));
        Check.due("what he would do, though he can't", 5, town.man(0, 6));
        Check.due("six", 6, town.run(1));
        town = Check.town("town 3 3;man a 0 0;man b 0 0;long = 3;goes a = 3;goes b = 1;");
        Check.due("all", 10, town.run(10));
        Check.due("out of the TOWN", 0, town.man(0, 2));
        Check.due("as far as it goes", 2, town.man(1, 1));
        town.cut(1);
        Check.due("LOST", 15, town.run(5));
        Check.due("LOST does nothing", 2, town.man(1, 1));
        town = Check.town("town 2 2;man a 0 0;man b 1 1;long = 3;goes a = 1 + left;goes b = 1 + x + y;");
        town.run(1);
        Check.due("by left", 4, town.man(0, 6));
        Check.due("out of the TOWN", 0, town.man(0, 2));
        Check.due("by where he is", 0, town.man(1, 1));
        Check.due("by where he is now", 2, town.man(1, 6));
    }

    public static void main(String[] args) {
        values();
        lengths();
        lots();
        minutes();
        Check.finish();
    }
}
