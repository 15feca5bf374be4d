/** Promises 6 to 13 and 42 to 44: MEN and PIECES, STEPS, WINDING, CUTS, undoing, holding, counting. */
public final class StepTest {
    private static void row(String what, ThreadTown town, int man, int... due) {
        for (int i = 0; i < due.length; i++) {
            Check.due(what + " man " + man + " what " + i, due[i], town.man(man, i));
        }
    }

    private static void men() {
        ThreadTown town = Check.town("town 3 3;man a 0 1;man b 2 2;dye b 7;long = 3;goes b = 11;");
        row("new", town, 0, 0, 1, 0, 3, 0, 0, 0, 0);
        row("new", town, 1, 2, 2, 0, 3, 0, 0, 5, 7);
        Check.steps(town, "a22b3");
        row("stepped", town, 0, 2, 1, 2, 1, 0, 2, 0, 0);
        row("stepped", town, 1, 2, 1, 1, 2, 0, 1, 5, 7);
        Check.due("cut", 1, town.cut(1));
        row("cut", town, 1, 2, 1, 0, 3, 1, 1, 0, 7);
        for (int what : new int[] {-1, 8, Integer.MAX_VALUE, Integer.MIN_VALUE}) {
            Check.due("man what " + what, -1, town.man(0, what));
        }
        for (int man : new int[] {-1, 2, 7, Integer.MAX_VALUE, Integer.MIN_VALUE}) {
            Check.due("man " + man, -1, town.man(man, 0));
            Check.due("piece " + man, -1, town.piece(man, 0, 0));
            Check.due("step " + man, false, town.step(man, 1));
            Check.due("wind " + man, false, town.wind(man));
            Check.due("home " + man, -1, town.home(man));
            Check.due("cut " + man, -1, town.cut(man));
        }
    }

    private static void steps() {
        ThreadTown town = Check.town("town 2 3;man a 0 0;long = 4;");
        for (int way : new int[] {0, 3, 4, 5, -1, Integer.MIN_VALUE, Integer.MAX_VALUE}) {
            Check.due("step " + way, false, town.step(0, way));
        }
        Check.due("nothing to undo", 0, town.count(9));
        Check.steps(town, "a11");
        Check.due("out of DEEP", false, town.step(0, 1));
        Check.steps(town, "a2");
        Check.due("out of WIDE", false, town.step(0, 2));
        Check.steps(town, "a3");
        Check.due("none LEFT", false, town.step(0, 3));
        Check.due("still none LEFT", false, town.step(0, 4));
        int[] ways = {1, 1, 2, 3};
        for (int i = 0; i < 4; i++) {
            Check.due("piece " + i, ways[i], town.piece(0, i, 0));
        }
        Check.due("piece 4", -1, town.piece(0, 4, 0));
        Check.due("piece -1", -1, town.piece(0, -1, 0));
        Check.due("piece what 3", -1, town.piece(0, 0, 3));
        Check.due("piece what -1", -1, town.piece(0, 0, -1));
        Check.due("undoable", 4, town.count(9));
    }

    private static void piles() {
        ThreadTown town = Check.town("man a 0 0;man b 0 0;man c 0 1;");
        Check.steps(town, "a1b1c3a3");
        int[][] due = {{0, 0, 0, 3}, {0, 1, 3, 0}, {1, 0, 1, 2}, {2, 0, 2, 1}};
        for (int[] row : due) {
            Check.due("under " + row[0] + row[1], row[2], town.piece(row[0], row[1], 1));
            Check.due("over " + row[0] + row[1], row[3], town.piece(row[0], row[1], 2));
        }
        Check.due("b is under", false, town.wind(1));
        Check.due("c is under", -1, town.home(2));
        Check.due("a is uppermost", true, town.wind(0));
        Check.due("where a is", 1, town.man(0, 1));
        Check.due("a again", false, town.wind(0));
        Check.due("cut c", 1, town.cut(2));
        Check.due("over b now", 0, town.piece(1, 0, 2));
        Check.due("cut a, beneath", 1, town.cut(0));
        Check.due("under b now", 0, town.piece(1, 0, 1));
        Check.due("b", true, town.wind(1));
        Check.due("nothing left", false, town.wind(1));
        Check.due("nothing left home", -1, town.home(1));
        Check.due("LOST winds", false, town.wind(0));
        Check.due("LOST steps", false, town.step(0, 1));
        Check.due("LOST home", -1, town.home(0));
        Check.due("LOST cut", -1, town.cut(0));
    }

    private static void home() {
        ThreadTown town = Check.town("man a 0 0;man b 1 0;");
        Check.steps(town, "a2211");
        Check.due("home", 4, town.home(0));
        row("home", town, 0, 0, 0, 0, 30, 0, 0);
        Check.due("home again", -1, town.home(0));
        Check.due("five things", 5, town.count(9));
        Check.steps(town, "a2211b2");
        Check.due("as far as he can", 2, town.home(0));
        row("as far", town, 0, 2, 0, 2, 28);
        Check.due("no farther", -1, town.home(0));
        Check.due("undo", true, town.undo());
        row("undone", town, 0, 2, 2, 4, 26);
        Check.due("a loop winds up", 1, town.home(1));
        Check.due("then he can", 4, town.home(0));
    }

    private static void undoing() {
        ThreadTown town = Check.town("man a 0 0;man b 0 0;goes b = 2;long = 60;");
        Check.due("nothing", false, town.undo());
        Check.due("run 0", 0, town.run(0));
        Check.due("run 0 is none", 0, town.count(9));
        Check.due("run 201", -1, town.run(201));
        Check.due("run -1", -1, town.run(-1));
        Check.due("run least", -1, town.run(Integer.MIN_VALUE));
        Check.due("run 200", 200, town.run(200));
        Check.due("b is at the end", 5, town.man(1, 0));
        Check.due("run 1", 201, town.run(1));
        Check.due("undo run", true, town.undo());
        Check.due("minute", 200, town.count(3));
        Check.due("undo run 200", true, town.undo());
        Check.due("minute 0", 0, town.count(3));
        Check.due("b is home", 0, town.man(1, 0));
        Check.steps(town, "a1b1");
        Check.due("cut", 1, town.cut(0));
        Check.due("undo cut", true, town.undo());
        Check.due("not LOST", 0, town.man(0, 4));
        Check.due("the PIECE is under b's again", 1, town.piece(0, 0, 2));
        Check.due("wind", true, town.wind(1));
        Check.due("undo wind", true, town.undo());
        Check.due("b's lies again", 1, town.piece(1, 0, 1));
        Check.due("undo b", true, town.undo());
        Check.due("undo a", true, town.undo());
        Check.due("no more", false, town.undo());
        Check.steps(town, "a13131313131313131313131313131313131");
        Check.due("thirty at most", 30, town.count(9));
        for (int i = 0; i < 30; i++) {
            Check.due("undo " + i, true, town.undo());
        }
        Check.due("the thirty-first", false, town.undo());
        Check.due("five lie", 5, town.man(0, 2));
        Check.steps(town, "a3");
        Check.due("one", 1, town.count(9));
    }

    private static void holding() {
        ThreadTown town = Check.town("man a 0 0;man b 0 0;goes a = 1;");
        Check.due("hold -1", false, town.hold(-1));
        Check.due("hold 3", false, town.hold(3));
        Check.due("hold least", false, town.hold(Integer.MIN_VALUE));
        Check.due("restore 0", false, town.restore(0));
        Check.due("restore 3", false, town.restore(3));
        Check.due("restore -1", false, town.restore(-1));
        Check.steps(town, "a2");
        Check.due("hold 0", true, town.hold(0));
        Check.due("holding is no thing done", 1, town.count(9));
        Check.due("held", 1, town.count(11));
        town.tell(0, 1, true);
        Check.feed(town, "x");
        town.run(3);
        Check.due("cut", 0, town.cut(1));
        Check.due("hold 2", true, town.hold(2));
        Check.due("held", 2, town.count(11));
        Check.due("restore 1", false, town.restore(1));
        Check.due("nothing happened", 3, town.count(3));
        Check.due("undoable", 3, town.count(9));
        Check.due("restore 0", true, town.restore(0));
        Check.due("nothing can be undone", 0, town.count(9));
        Check.due("undo", false, town.undo());
        Check.due("minute", 0, town.count(3));
        Check.due("LOST", 0, town.count(5));
        Check.due("PIECES", 1, town.count(4));
        Check.due("TOLD stays", 1, town.count(10));
        Check.due("the tape stays", 1, town.count(8));
        Check.due("slots stay", 2, town.count(11));
        Check.due("he winds", true, town.wind(0));
        Check.due("restore 2", true, town.restore(2));
        Check.due("minute", 3, town.count(3));
        Check.due("LOST", 1, town.count(5));
        Check.due("restore 0 again", true, town.restore(0));
        Check.due("PIECES again", 1, town.count(4));
        Check.due("hold 0 anew", true, town.hold(0));
        Check.due("slots", 2, town.count(11));
    }

    private static void counting() {
        ThreadTown town = Check.town("town 5 7;man a 0 0;man b 1 1;pillar 1 1;pillar 2 2;errand a 1 1;"
            + "errand b 1 2;errand b 3 3;");
        Check.steps(town, "a1b11");
        town.cut(1);
        town.run(4);
        town.hold(1);
        town.tell(0, 1, false);
        Check.feed(town, "abc");
        int[] due = {2, 5, 7, 4, 1, 1, 2, 3, 3, 5, 1, 1};
        for (int i = 0; i < due.length; i++) {
            Check.due("count " + i, due[i], town.count(i));
        }
        for (int what : new int[] {-1, 12, Integer.MIN_VALUE, Integer.MAX_VALUE}) {
            Check.due("count " + what, -1, town.count(what));
        }
    }

    public static void main(String[] args) {
        men();
        steps();
        piles();
        home();
        undoing();
        holding();
        counting();
        Check.finish();
    }
}
