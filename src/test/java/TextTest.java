/** Promises 1 to 5: a new object, the tape, texts and their FAULTS. */
public final class TextTest {
    private static void newObject() {
        ThreadTown town = new ThreadTown();
        int[] counts = {0, 6, 6, 0, 0, 0, 0, 0, 0, 0, 0, 0};
        for (int i = 0; i < counts.length; i++) {
            Check.due("new count " + i, counts[i], town.count(i));
        }
        Check.due("new place", -1, town.place());
        Check.due("new undo", false, town.undo());
        Check.due("new restore", false, town.restore(0));
        Check.due("new read", 0, town.read());
        Check.due("new place after read", -1, town.place());
    }

    private static void feeding() {
        ThreadTown town = new ThreadTown();
        Check.due("back of nothing", 0, town.back(0));
        Check.due("back of too many", -1, town.back(1));
        for (int i = 1; i <= 100; i++) {
            Check.due("feed " + i, 20 * i, town.feed(0x20202020, 0x20202020, 0x20202020, 0x20202020, 0x20202020));
        }
        Check.due("feed 101", -1, town.feed(0, 0, 0, 0, 0));
        Check.due("tape", 2000, town.count(8));
        Check.due("back 1", 1999, town.back(1));
        Check.due("feed at 1999", -1, town.feed(0, 0, 0, 0, 0));
        Check.due("back below 0", -1, town.back(-1));
        Check.due("back of least", -1, town.back(Integer.MIN_VALUE));
        Check.due("back 2000", -1, town.back(2000));
        Check.due("back 19", 1980, town.back(19));
        Check.due("feed at 1980", 2000,
            town.feed(0x20202020, 0x20202020, 0x20202020, 0x20202020, 0x20202020));
        Check.due("nothing else came", 0, town.read());
        Check.due("tape is empty", 0, town.count(8));
        Check.due("highest byte first", 20, town.feed(0x746f776e, 0x20332034, 0x3b202020, 0x090a0d20, 0x20202020));
        Check.due("read", 0, town.read());
        Check.due("WIDE", 3, town.count(1));
        Check.due("DEEP", 4, town.count(2));
    }

    private static void takenBack() {
        String[] all = {"seed 12345          ", "longer = 7;         ", "town 3 3;man a 0 0;;"};
        int[][] due = {{14, 1, 6}, {17, 1, 0}, {1, 0, -1}};
        for (int i = 0; i < all.length; i++) {
            ThreadTown town = new ThreadTown();
            Check.feed(town, all[i]);
            town.back(due[i][0]);
            Check.due("what was taken back is not read: " + all[i], due[i][1], town.read());
            Check.due("its place: " + all[i], due[i][2], town.place());
        }
    }

    private static void syntax() {
        Check.fault("x", 1, 0);
        Check.fault("  ;", 1, 2);
        Check.fault("town 3 3", 1, 8);
        Check.fault("town 1 1 \n", 1, 10);
        Check.fault("town 3 3 3;", 1, 9);
        Check.fault("town 3;", 1, 6);
        Check.fault("man town 0 0;", 1, 4);
        Check.fault("man x 0 0;", 1, 4);
        Check.fault("man abcdefghi 0 0;", 1, 4);
        Check.fine("man abcdefgh 0 0;");
        Check.fine("man towns 0 0;man rankx 0 0;");
        Check.fine("man\ta\r0\n0 ; ");
        Check.fine("seed0009;town2 2;man1x".substring(0, 17));
        Check.fault("seed 12345;", 1, 5);
        Check.fault("seed 00009;", 1, 5);
        Check.fault("Man a 0 0;", 1, 0);
        Check.fault("man a 0.0;", 1, 7);
        Check.fault("man \u00e9 0 0;", 1, 4);
        Check.fault("seed 1;\0", 1, 7);
        Check.fault("long = ;", 1, 7);
        Check.fault("long = - 1;", 1, 7);
        Check.fault("long = 1 + ;", 1, 11);
        Check.fault("long = (1;", 1, 9);
        Check.fault("long = 1);", 1, 8);
        Check.fault("long = ();", 1, 8);
        Check.fault("long = 1 2;", 1, 9);
        Check.fault("long = 1 < 2;", 1, 9);
        Check.fault("long = if (1 < 2) then 1 else 2;", 1, 13);
        Check.fault("long = if 1 then 1 else 2;", 1, 12);
        Check.fault("long = if 1 < 2 < 3 then 1 else 2;", 1, 16);
        Check.fault("long = if 1 < 2 then 1;", 1, 22);
        Check.fault("long = if 1 < 2 then if 1 < 2 then 1 else 1 else 1;", 1, 21);
        Check.fault("long = a;", 1, 7);
        Check.fault("goes a 1;", 1, 7);
        Check.fault("goes = 1;", 1, 5);
        Check.fault("dye a 1 1;", 1, 8);
        Check.fault("pillar 1;", 1, 8);
        Check.fault("man a 0 0;dye a -1;", 1, 16);
    }

    private static void room() {
        String hundred = "town 6 6;".repeat(100);
        Check.fine(hundred);
        Check.fault(hundred + " seed 1;", 2, 901);
        Check.fault(hundred + " 1", 1, 901);
        Check.fault(hundred + " 12345", 1, 901);
        Check.fault("seed 1;".repeat(133) + "seed 1;", 2, 133 * 7 + 5);
        Check.fault("seed 1;".repeat(133) + "seed", 1, 133 * 7 + 4);
        Check.fault("(".repeat(500), 1, 0);
        String men = "man a 0 0;man b 0 0;man c 0 0;man d 0 0;man e 0 0;man f 0 0;man g 0 0;";
        Check.fine(men);
        Check.fault(men + "man h 0 0;", 2, 70);
        Check.fault(men + "man ;", 2, 70);
        Check.fault("man a 0 0;".repeat(8), 2, 70);
        String pillars = "pillar 0 0;".repeat(6);
        Check.fine(pillars);
        Check.fault(pillars + "pillar 0 0;", 2, 66);
        String errands = "man a 0 0;man b 1 1;" + "errand a 0 0;".repeat(6) + "errand b 1 1;".repeat(6);
        Check.fine(errands);
        Check.fault(errands + "errand a 0 0;", 2, 20 + 12 * 13);
        Check.fault(errands + "errand b 0 0;", 2, 20 + 12 * 13);
        Check.fault(errands + "errand 0 0;", 1, 20 + 12 * 13 + 7);
        Check.fault("errand a 0 0;".repeat(7) + "man a 0 0;", 4, 7);
        Check.fault("errand a 0 0;".repeat(7) + "man a 0 0;" + "errand a 0 0;".repeat(7), 2, 101 + 6 * 13);
        String ifs = "if 1<2 then 1 else ";
        Check.fine("long = " + ifs.repeat(4) + "0;");
        Check.fine("man a 0 0;long = " + ifs.repeat(4) + "0;goes a = " + ifs.repeat(4) + "0;");
        Check.fault("long = " + ifs.repeat(5) + "0;", 2, 7 + 4 * 19);
        Check.fine("long = ((((((1))))));");
        Check.fine("long = (1)+(1)+(1)+(1)+(1)+(1)+(1)+(1);");
        Check.fine("long = if ((((((1)))))) < ((((((1)))))) then ((((((1)))))) else ((((((1))))));");
        Check.fault("long = (((((((1)))))));", 2, 13);
        Check.fine("long = 1*(1+(1*(1+(1*(1+(1*1))))));");
        Check.fault("long = 1*(1+(1*(1+(1*(1+(1*(1)))))));", 2, 27);
        StringBuilder most = new StringBuilder(men);
        for (int i = 0; i < 42; i++) {
            most.append("errand ").append("abcdefg".charAt(i % 7)).append(" 5 5;");
        }
        Check.fine(most.toString());
        Check.fault(most + "town 5 6;", 6, 70 + 9);
        Check.fault(most.substring(0, most.length() - 4) + "6 5;", 6, 70 + 42 * 13 - 4);
    }

    private static void namesAndNumbers() {
        Check.fault("man a 0 0;man a 0 0;", 3, 14);
        Check.fault("man a 0 0;man a 99 0;", 3, 14);
        Check.fault("man a 99 0;man a 0 0;", 5, 6);
        Check.fault("man a 0 0;man a 0 0;x", 1, 20);
        Check.fault("dye a 0;man a 0 0;", 4, 4);
        Check.fault("dye a 99;", 4, 4);
        Check.fault("man a 0 0;goes b = 1;", 4, 15);
        Check.fault("goes a = (1;", 1, 11);
        Check.fault("town 1 5;", 5, 5);
        Check.fault("town 5 1;", 5, 7);
        Check.fault("town 13 5;", 5, 5);
        Check.fault("town 5 13;", 5, 7);
        Check.fine("town 2 2;");
        Check.fine("town 12 12;man a 11 11;errand a 11 0;");
        Check.fault("town 12 12;man a 12 0;", 5, 17);
        Check.fault("town 12 12;man a 0 12;", 5, 19);
        Check.fault("man a 0 0;errand a 12 0;", 5, 19);
        Check.fault("man a 0 0;errand a 0 12;", 5, 21);
        Check.fine("man a 0 0;dye a 9;");
        Check.fault("man a 0 0;dye a 10;", 5, 16);
        Check.fine("pillar 10 10;town 2 2;");
        Check.fault("pillar 11 0;", 5, 7);
        Check.fault("pillar 0 11;", 5, 9);
        Check.fine("seed 9999;");
        Check.fine("seed 0;");
        Check.fault("town 3 3;man a 3 0;", 6, 15);
        Check.fault("town 3 3;man a 0 3;", 6, 15);
        Check.fault("man a 3 0;town 3 3;", 6, 6);
        Check.fine("man a 3 0;town 3 3;town 4 3;");
        Check.fault("man a 6 0;", 6, 6);
        Check.fault("man a 0 0;errand a 0 6;", 6, 19);
        Check.fault("man a 0 0;errand a 6 0;man b 7 7;", 6, 19);
        Check.fault("man a 6 0;dye a 10;", 5, 16);
    }

    private static void whatATextTells() {
        ThreadTown town = Check.town("town 3 4;man a 1 2;man b 0 0;dye a 3;dye a 4;pillar 9 9;"
            + "errand b 2 2;goes a = 1;goes a = 2;long = 7;long = 8 + rank;");
        int[] counts = {2, 3, 4, 0, 0, 0, 1, 1, 0, 0, 0, 0};
        for (int i = 0; i < counts.length; i++) {
            Check.due("count " + i, counts[i], town.count(i));
        }
        int[] man = {1, 2, 0, 8, 0, 0, 2, 4};
        for (int i = 0; i < man.length; i++) {
            Check.due("man " + i, man[i], town.man(0, i));
        }
        Check.due("no GOES", 0, town.man(1, 6));
        Check.due("no DYE", 0, town.man(1, 7));
        Check.due("LONG", 9, town.man(1, 3));
        Check.due("LONG not told", 30, Check.town("man a 0 0;").man(0, 3));
    }

    private static void whatReadingChanges() {
        ThreadTown town = Check.town("town 3 3;man a 0 0;man b 0 0;");
        Check.steps(town, "a1b1");
        town.run(2);
        town.hold(1);
        town.tell(0, 1, true);
        Check.due("fault", 5, Check.read(town, "town 3 33;"));
        Check.due("place", 7, town.place());
        int[] counts = {2, 3, 3, 2, 2, 0, 0, 0, 0, 3, 1, 1};
        for (int i = 0; i < counts.length; i++) {
            Check.due("count " + i + " after a fault", counts[i], town.count(i));
        }
        Check.due("undo after a fault", true, town.undo());
        Check.due("good text", 0, Check.read(town, "man z 5 5;"));
        Check.due("no place", -1, town.place());
        int[] fresh = {1, 6, 6, 0, 0, 0, 0, 0, 0, 0, 0, 0};
        for (int i = 0; i < fresh.length; i++) {
            Check.due("count " + i + " after a good text", fresh[i], town.count(i));
        }
        Check.due("restore after a good text", false, town.restore(1));
        Check.due("undo after a good text", false, town.undo());
        Check.due("at his DOOR", 5, town.man(0, 0));
        Check.due("empty text", 0, town.read());
        Check.due("no MEN", 0, town.count(0));
    }

    public static void main(String[] args) {
        newObject();
        feeding();
        takenBack();
        syntax();
        room();
        namesAndNumbers();
        whatATextTells();
        whatReadingChanges();
        Check.finish();
    }
}
