/** Promises 25, 28 to 34 and 37: STREETS, what they SHOW, who KNOWS whom, CROWDS, who is near. */
public final class StreetTest {
    private static void streets() {
        ThreadTown town = Check.town("town 3 4;man a 0 0;man b 0 0;man c 1 0;dye a 2;dye c 9;");
        Check.due("empty", 0, town.street(0, 0, 1, -1));
        Check.due("nothing shows", -2, town.shows(0, 0, 1));
        Check.steps(town, "a2b2c4a1");
        for (int[] from : new int[][] {{0, 0, 2}, {1, 0, 4}}) {
            Check.due("how many", 3, town.street(from[0], from[1], from[2], -1));
            for (int i = 0; i < 3; i++) {
                Check.due("whose " + i, i, town.street(from[0], from[1], from[2], i));
            }
            Check.due("not so many", -1, town.street(from[0], from[1], from[2], 3));
            Check.due("i -2", -1, town.street(from[0], from[1], from[2], -2));
            Check.due("i least", -1, town.street(from[0], from[1], from[2], Integer.MIN_VALUE));
            Check.due("shows", 9, town.shows(from[0], from[1], from[2]));
        }
        Check.due("up", 1, town.street(1, 0, 1, -1));
        Check.due("up from there", 0, town.street(1, 1, 3, 0));
        Check.due("up shows", 2, town.shows(1, 1, 3));
        int[][] none = {{0, 0, 3}, {0, 0, 4}, {2, 0, 2}, {0, 3, 1}, {3, 0, 1}, {0, 4, 3}, {-1, 0, 2}, {0, -1, 1},
            {0, 0, 0}, {0, 0, 5}, {3, 0, 4}, {Integer.MAX_VALUE, 0, 4}, {0, Integer.MIN_VALUE, 1}};
        for (int[] row : none) {
            Check.due("no such STREET", -1, town.street(row[0], row[1], row[2], -1));
            Check.due("no such STREET shows", -1, town.shows(row[0], row[1], row[2]));
        }
        int[] shown = {0, 0, 1, 0, 0, 0, 0, 0, 0, 1};
        for (int dye = 0; dye < 10; dye++) {
            Check.due("shown " + dye, shown[dye], town.shown(dye));
        }
        Check.due("shown -1", -1, town.shown(-1));
        Check.due("shown 10", -1, town.shown(10));
        int[] tops = {1, 0, 1};
        for (int man = 0; man < 3; man++) {
            Check.due("uppermost " + man, tops[man], town.uppermost(man));
        }
        Check.due("uppermost -1", -1, town.uppermost(-1));
        Check.due("uppermost 3", -1, town.uppermost(3));
        Check.steps(town, "b4");
        Check.due("b above", 0, town.shows(0, 0, 2));
        Check.due("DYE 0 shown", 1, town.shown(0));
        town.cut(1);
        Check.due("c again", 9, town.shows(0, 0, 2));
        Check.due("two lie", 2, town.street(0, 0, 2, -1));
        Check.due("the upper one", 2, town.street(0, 0, 2, 1));
    }

    private static void links() {
        ThreadTown town = Check.town("town 6 6;man a 0 0;man b 1 0;man c 2 0;man d 3 0;man e 5 5;man f 5 0;");
        Check.due("no rounds", 0, town.rounds());
        Check.due("no links", -2, town.links(0, 1));
        Check.steps(town, "a2b42c422d4");
        int[] knows = {2, 1, 8, 4, 0, 0};
        for (int man = 0; man < 6; man++) {
            Check.due("knows " + man, knows[man], town.knows(man));
        }
        Check.due("two rounds", 2, town.rounds());
        Check.due("none", -2, town.links(0, 3));
        Check.steps(town, "b2");
        Check.due("b knows more", 5, town.knows(1));
        Check.due("c knows more", 10, town.knows(2));
        int[][] due = {{0, 1, 1}, {0, 2, 2}, {0, 3, 3}, {3, 0, 3}, {1, 3, 2}, {0, 4, -2}, {4, 5, -2}};
        for (int[] row : due) {
            Check.due("links " + row[0] + row[1], row[2], town.links(row[0], row[1]));
        }
        for (int[] row : new int[][] {{0, 0}, {-1, 0}, {0, 6}, {6, 0}, {0, -1}, {9, 9}}) {
            Check.due("links " + row[0] + row[1], -1, town.links(row[0], row[1]));
        }
        Check.due("one round", 1, town.rounds());
        Check.steps(town, "e3");
        Check.due("rounds with e", 2, town.rounds());
        Check.due("knows -1", -1, town.knows(-1));
        Check.due("knows 6", -1, town.knows(6));
        town.cut(1);
        Check.due("rounds without b", 3, town.rounds());
        Check.due("LOST knows none", 0, town.knows(1));
    }

    private static void crowds() {
        ThreadTown town = Check.town("town 4 4;man a 0 0;man b 2 2;man c 3 3;");
        Check.due("no thread", -2, town.crowd(0));
        Check.due("no thread, how many", -2, town.crowd(1));
        Check.due("no such what", -1, town.crowd(2));
        Check.due("no such what", -1, town.crowd(-1));
        Check.steps(town, "c3");
        Check.due("of alike ones", 203, town.crowd(0));
        Check.due("one", 1, town.crowd(1));
        Check.steps(town, "a22b33");
        Check.due("where both come", 2, town.crowd(0));
        Check.due("two", 2, town.crowd(1));
        Check.steps(town, "c34");
        Check.due("of more than one, the least y", 2, town.crowd(0));
        Check.steps(town, "a1");
        Check.due("all three", 102, town.crowd(0));
        Check.due("three", 3, town.crowd(1));
        town = Check.town("town 4 4;man a 0 0;man b 1 0;man c 1 0;");
        Check.steps(town, "a222");
        Check.due("DOORS without threads do not count", 0, town.crowd(0));
        Check.due("one alone", 1, town.crowd(1));
        Check.steps(town, "b1");
        Check.due("the DOOR counts", 1, town.crowd(0));
        Check.due("with a", 2, town.crowd(1));
        Check.steps(town, "b31313");
        Check.due("each once", 2, town.crowd(1));
        town.cut(0);
        Check.due("b's alone", 1, town.crowd(0));
        Check.due("b alone", 1, town.crowd(1));
    }

    private static void near() {
        ThreadTown town = Check.town("town 6 6;man a 0 0;man b 3 0;man c 0 3;man d 5 5;");
        int[][] due = {{0, 1, 3}, {1, 0, 3}, {2, 0, 3}, {3, 1, 7}};
        for (int[] row : due) {
            Check.due("nearest " + row[0], row[1], town.nearest(row[0], 0));
            Check.due("how far " + row[0], row[2], town.nearest(row[0], 1));
        }
        Check.steps(town, "c2");
        town.cut(2);
        Check.due("LOST ones, too", 2, town.nearest(3, 0));
        Check.due("how far", 6, town.nearest(3, 1));
        Check.due("what 2", -1, town.nearest(0, 2));
        Check.due("what -1", -1, town.nearest(0, -1));
        Check.due("man -1", -1, town.nearest(-1, 0));
        Check.due("man 4", -1, town.nearest(4, 0));
        ThreadTown one = Check.town("man a 0 0;");
        Check.due("no other", -2, one.nearest(0, 0));
        Check.due("no other, how far", -2, one.nearest(0, 1));
        Check.due("no other, no such what", -1, one.nearest(0, 2));
        Check.due("no man", -1, new ThreadTown().nearest(0, 0));
    }

    public static void main(String[] args) {
        streets();
        links();
        crowds();
        near();
        Check.finish();
    }
}
