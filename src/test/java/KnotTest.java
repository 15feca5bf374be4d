/** Promises 14 to 18, 24 and 38: who is OVER whom, who WAITS, ORDERS, CUTS, MOST OVER, unfairness. */
public final class KnotTest {
    private static final String FOUR = "town 5 5;man a 0 0;man b 0 0;man c 0 0;man d 4 4;";

    private static void order(ThreadTown town, int... due) {
        for (int i = 0; i < due.length; i++) {
            Check.due("orderAt " + i, due[i], town.orderAt(i));
        }
        Check.due("orderAt the end", -1, town.orderAt(due.length));
        Check.due("orderAt -1", -1, town.orderAt(-1));
        Check.due("orderAt most", -1, town.orderAt(Integer.MAX_VALUE));
        Check.due("orderAt least", -1, town.orderAt(Integer.MIN_VALUE));
    }

    private static void cuts(ThreadTown town, int... due) {
        for (int i = 0; i < 3; i++) {
            Check.due("cuts " + i, due[i], town.cuts(i));
        }
        Check.due("cuts -1", -1, town.cuts(-1));
        Check.due("cuts 3", -1, town.cuts(3));
    }

    private static void noThread() {
        ThreadTown town = Check.town(FOUR);
        Check.due("orders", 1, town.orders());
        order(town);
        cuts(town, 0, 0, 0);
        Check.due("most who", 0, town.most(0));
        Check.due("most", 0, town.most(1));
        Check.due("unfair", 0, town.unfair());
        ThreadTown empty = new ThreadTown();
        Check.due("nobody most", -2, empty.most(0));
        Check.due("nobody how many", -2, empty.most(1));
        Check.due("nobody unfair", 0, empty.unfair());
        Check.due("nobody orders", 1, empty.orders());
        order(empty);
    }

    private static void pile() {
        ThreadTown town = Check.town(FOUR);
        Check.steps(town, "a1b1c1");
        int[][] over = {{1, 0, 1}, {0, 1, 0}, {2, 0, 1}, {2, 1, 1}, {1, 2, 0}, {3, 0, 0}};
        for (int[] row : over) {
            Check.due("over " + row[0] + row[1], row[2], town.over(row[0], row[1]));
        }
        for (int[] row : new int[][] {{0, 0}, {-1, 0}, {0, -1}, {4, 0}, {0, 4}, {Integer.MIN_VALUE, 7}}) {
            Check.due("over " + row[0] + row[1], -1, town.over(row[0], row[1]));
        }
        int[] waits = {6, 4, 0, 0};
        for (int i = 0; i < 4; i++) {
            Check.due("waits " + i, waits[i], town.waits(i));
        }
        Check.due("waits -1", -1, town.waits(-1));
        Check.due("waits 4", -1, town.waits(4));
        Check.due("orders", 1, town.orders());
        order(town, 2, 1, 0);
        cuts(town, 0, 0, 0);
        Check.due("most who", 2, town.most(0));
        Check.due("most", 2, town.most(1));
        Check.due("most -1", -1, town.most(-1));
        Check.due("most 2", -1, town.most(2));
        Check.due("unfair", 2, town.unfair());
        Check.steps(town, "d3");
        Check.due("orders with d", 4, town.orders());
        order(town, 2, 1, 0, 3);
        Check.due("cut c", 1, town.cut(2));
        Check.due("orders without c", 3, town.orders());
        order(town, 1, 0, 3);
        Check.due("waits for none LOST", 2, town.waits(0));
        Check.due("first of alike ones", 1, town.most(0));
    }

    private static void allFree() {
        ThreadTown town = Check.town("town 8 2;man a 0 0;man b 1 0;man c 2 0;man d 3 0;man e 4 0;man f 5 0;"
            + "man g 6 0;");
        Check.steps(town, "a1b1c1d1e1f1g1");
        Check.due("orders of seven", 5040, town.orders());
        order(town, 0, 1, 2, 3, 4, 5, 6);
        Check.steps(town, "g3");
        Check.due("his own PIECE is no other's", 5040, town.orders());
        Check.due("over none", 0, town.most(1));
    }

    private static void knots() {
        ThreadTown town = Check.town(FOUR);
        Check.steps(town, "a1b1a3");
        Check.due("a over b", 1, town.over(0, 1));
        Check.due("b over a", 1, town.over(1, 0));
        Check.due("a waits", 2, town.waits(0));
        Check.due("b waits", 1, town.waits(1));
        Check.due("orders", 0, town.orders());
        Check.due("orderAt 0", -2, town.orderAt(0));
        Check.due("orderAt 9", -2, town.orderAt(9));
        Check.due("orderAt -1", -1, town.orderAt(-1));
        cuts(town, 1, 1, 2);
        Check.due("unfair", 1, town.unfair());
        Check.steps(town, "b1");
        cuts(town, 1, 2, 1);
        Check.steps(town, "c1111");
        cuts(town, 1, 2, 1);
        Check.steps(town, "b23");
        Check.due("nothing happened", 0, town.count(5));
        cuts(town, 1, 2, 1);
    }

    private static void manyCuts() {
        ThreadTown town = Check.town("town 4 3;man a 0 0;man b 0 0;man c 2 0;man d 2 0;man e 0 0;");
        Check.steps(town, "a1b1a3c1d1c3");
        cuts(town, 2, 2, 10);
        Check.steps(town, "d1e2");
        cuts(town, 2, 3, 6);
        Check.due("orders", 0, town.orders());
    }

    private static void eachTwo() {
        ThreadTown town = Check.town(FOUR);
        Check.steps(town, "b1a13131");
        Check.due("one PIECE many times", 5, town.over(0, 1));
        Check.due("most", 5, town.most(1));
        Check.due("who", 0, town.most(0));
        Check.steps(town, "b31");
        Check.due("two above five", 10, town.over(1, 0));
        Check.due("not his own", 10, town.most(1));
        Check.due("who now", 1, town.most(0));
        Check.due("unfair", 10, town.unfair());
    }

    public static void main(String[] args) {
        noThread();
        pile();
        allFree();
        knots();
        manyCuts();
        eachTwo();
        Check.finish();
    }
}
