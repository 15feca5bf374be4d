/** Sentence by sentence: STREETS, what they SHOW, who KNOWS whom, CROWDS, who is near (25, 28 to 34, 37). */
final class StreetSentences {
    private static final int LEAST = Integer.MIN_VALUE;
    private static final int MOST = Integer.MAX_VALUE;
    private static final String SEVEN = "town 12 12;man a 0 0;man b 0 0;man c 0 0;man d 0 0;man e 0 0;man f 0 0;"
        + "man g 0 0;";
    /** No STREETS of a TOWN of 12 by 2: corner and STEP. */
    private static final int[][] NO_STREETS = {{0, 0, 3}, {0, 0, 4}, {11, 0, 2}, {11, 1, 1}, {12, 0, 4}, {0, 2, 3},
        {-1, 0, 2}, {0, -1, 1}, {0, 0, 0}, {0, 0, 5}, {0, 0, -1}, {0, 0, LEAST}, {0, 0, MOST}, {LEAST, 0, 2},
        {MOST, 0, 4}, {0, LEAST, 1}, {0, MOST, 3}, {MOST, MOST, MOST}};

    private StreetSentences() {
    }

    private static void streets() {
        Sentence.of(25, "Threads' PIECES on the STREET from a corner by a STEP (1 .. 4): how many (i NONE), "
            + "else whose the i-th is, from the lowest on;");
        ThreadTown town = Check.town("town 12 2;man a 0 0;man b 11 1;man c 11 0;long = 60;");
        Check.due("none", 0, town.street(0, 0, 1, -1));
        Check.steps(town, "a1b4c4a3b2a1c2b4");
        int[][] ways = {{0, 0, 1, 3}, {0, 1, 3, 3}, {11, 1, 4, 3}, {10, 1, 2, 3}, {11, 0, 4, 2}, {10, 0, 2, 2}};
        for (int[] row : ways) {
            Check.due("how many", row[3], town.street(row[0], row[1], row[2], -1));
        }
        Check.steps(town, "b2c1c4");
        int[] whose = {1, 1, 1, 1, 2};
        for (int i = 0; i < 5; i++) {
            Check.due("whose", whose[i], town.street(11, 1, 4, i));
            Check.due("from the other end", whose[i], town.street(10, 1, 2, i));
        }
        Sentence.of(25, "NONE: no such STREET, not so many.");
        for (int[] row : NO_STREETS) {
            Check.due("no STREET", -1, town.street(row[0], row[1], row[2], -1));
            Check.due("no STREET at 0", -1, town.street(row[0], row[1], row[2], 0));
        }
        for (int i : new int[] {5, 6, MOST, -2, LEAST}) {
            Check.due("not so many " + i, -1, town.street(11, 1, 4, i));
        }
        Check.due("none lies", -1, town.street(5, 0, 1, 0));
        Sentence.of(25, "how many (i NONE)");
        town = full();
        Check.due("all that can lie", 420, town.street(0, 1, 3, -1));
        Check.due("the last one", 6, town.street(0, 0, 1, 419));
        Check.due("not so many", -1, town.street(0, 0, 1, 420));
    }

    /** Seven MEN whose sixty PIECES each lie on one STREET. */
    static ThreadTown full() {
        StringBuilder text = new StringBuilder(SEVEN + "long = 60;");
        for (char name = 'a'; name <= 'g'; name++) {
            text.append("goes ").append(name).append(" = 1 + 2 * (minute - minute / 2 * 2);");
        }
        ThreadTown town = Check.town(text.toString());
        Check.due("run", 60, town.run(60));
        return town;
    }

    private static void shows() {
        Sentence.of(0, "A STREET SHOWS the DYE of the uppermost PIECE.");
        ThreadTown town = Check.town("town 12 2;man a 0 0;man b 0 0;man c 0 0;dye a 9;dye b 4;");
        int[] dyes = {9, 4, 0};
        for (int man = 0; man < 3; man++) {
            Check.due("step", true, town.step(man, 1));
            Check.due("shows", dyes[man], town.shows(0, 0, 1));
        }
        Check.due("wind", true, town.wind(2));
        Check.due("the one below", 4, town.shows(0, 0, 1));
        Sentence.of(28, "What the STREET from a corner by a STEP SHOWS;");
        Check.due("from the other end", 4, town.shows(0, 1, 3));
        Check.due("cut", 1, town.cut(1));
        Check.due("the last one", 9, town.shows(0, 1, 3));
        Sentence.of(28, "-2: nothing lies there;");
        Check.due("another STREET", -2, town.shows(0, 0, 2));
        Check.due("at the edge", -2, town.shows(11, 1, 4));
        Check.due("home", 1, town.home(0));
        Check.due("nothing any more", -2, town.shows(0, 0, 1));
        Check.due("without MEN", -2, new ThreadTown().shows(5, 5, 3));
        Sentence.of(28, "NONE: no such STREET.");
        for (int[] row : NO_STREETS) {
            Check.due("no STREET", -1, town.shows(row[0], row[1], row[2]));
        }

        Sentence.of(29, "How many STREETS SHOW a DYE (0 .. 9);");
        town = Check.town("town 12 12;man a 0 0;man b 0 0;man c 0 0;man d 0 0;dye a 9;dye b 9;dye c 5;");
        Check.due("none", 0, town.shown(0));
        Check.steps(town, "a222b11c2d2");
        int[] shown = {1, 0, 0, 0, 0, 0, 0, 0, 0, 4};
        for (int dye = 0; dye < 10; dye++) {
            Check.due("shown " + dye, shown[dye], town.shown(dye));
        }
        Check.due("d winds", true, town.wind(3));
        Check.due("c's", 1, town.shown(5));
        Check.due("d's", 0, town.shown(0));
        Check.due("without MEN", 0, new ThreadTown().shown(0));
        Sentence.of(29, "NONE: no such one.");
        for (int dye : new int[] {-1, 10, LEAST, MOST}) {
            Check.due("dye " + dye, -1, town.shown(dye));
        }

        Sentence.of(30, "On how many STREETS a MAN's PIECE is uppermost;");
        int[] tops = {2, 2, 1, 0};
        for (int man = 0; man < 4; man++) {
            Check.due("uppermost " + man, tops[man], town.uppermost(man));
        }
        Check.steps(town, "a44");
        Check.due("each STREET once", 2, town.uppermost(0));
        Check.steps(town, "a4");
        Check.due("c's, too", 3, town.uppermost(0));
        Check.due("not c's any more", 0, town.uppermost(2));
        Check.due("cut", 6, town.cut(0));
        Check.due("LOST", 0, town.uppermost(0));
        Sentence.of(30, "NONE: no such MAN.");
        for (int man : new int[] {-1, 4, 7, LEAST, MOST}) {
            Check.due("uppermost " + man, -1, town.uppermost(man));
        }
        Check.due("without MEN", -1, new ThreadTown().uppermost(0));
    }

    private static void known() {
        Sentence.of(0, "Two MEN KNOW one another if PIECES of both lie on one STREET;");
        ThreadTown town = Check.town("town 12 2;man a 0 0;man b 0 0;man c 0 1;man d 0 0;");
        Check.steps(town, "a1c3b1");
        Check.due("a", 6, town.knows(0));
        Check.due("b", 5, town.knows(1));
        Check.due("c", 3, town.knows(2));
        Check.due("d", 0, town.knows(3));
        Check.steps(town, "d2");
        Check.due("at one corner alone", 0, town.knows(3));
        Sentence.of(31, "Whom a MAN KNOWS (bits);");
        town = Check.town(SEVEN);
        Check.due("none lies", 0, town.knows(0));
        Check.steps(town, "a1b1c1d1e1f1g1a3");
        for (int man = 0; man < 7; man++) {
            Check.due("all others", 127 & ~(1 << man), town.knows(man));
        }
        Check.due("cut", 1, town.cut(6));
        Check.due("a LOST one", 62, town.knows(0));
        Check.due("LOST", 0, town.knows(6));
        Sentence.of(31, "NONE: no such one.");
        for (int man : new int[] {-1, 7, LEAST, MOST}) {
            Check.due("knows " + man, -1, town.knows(man));
        }
        Check.due("without MEN", -1, new ThreadTown().knows(0));
    }

    /** Seven MEN in a row, each of whose threads lies on one STREET with that of the next one. */
    private static ThreadTown chain() {
        ThreadTown town = Check.town("town 12 2;man a 0 0;man b 1 0;man c 2 0;man d 3 0;man e 4 0;man f 5 0;"
            + "man g 6 0;");
        Check.steps(town, "a2b2c2d2e2f2g2");
        Check.due("no links yet", -2, town.links(0, 1));
        Check.steps(town, "a2b2c2d2e2f2");
        return town;
    }

    private static void links() {
        Sentence.of(0, "LINKS: the fewest such steps from one to another one (1: they KNOW one another);");
        ThreadTown town = chain();
        for (int man = 0; man < 7; man++) {
            for (int other = 0; other < 7; other++) {
                int far = man == other ? -1 : Math.abs(man - other);
                Check.due("links " + man + " " + other, far, town.links(man, other));
            }
        }
        Check.steps(town, "a22");
        Check.due("a and d KNOW one another", 1, town.links(0, 3));
        Check.due("a short cut", 4, town.links(0, 6));
        Sentence.of(32, "LINKS;");
        Check.due("one", 1, chain().links(6, 5));
        Check.due("six", 6, chain().links(6, 0));
        Sentence.of(32, "-2: there are none;");
        Check.due("cut", 2, town.cut(5));
        Check.due("beyond the LOST one", -2, town.links(0, 6));
        Check.due("to the LOST one", -2, town.links(4, 5));
        Check.due("from the LOST one", -2, town.links(5, 4));
        Check.due("none lies", -2, Check.town(SEVEN).links(0, 6));
        Sentence.of(32, "NONE: no such ones, one and the same.");
        for (int other : new int[] {-1, 7, LEAST, MOST}) {
            Check.due("links 0 " + other, -1, town.links(0, other));
            Check.due("links " + other + " 0", -1, town.links(other, 0));
            Check.due("links " + other + " twice", -1, town.links(other, other));
        }
        Check.due("one and the same", -1, town.links(3, 3));
        Check.due("without MEN", -1, new ThreadTown().links(0, 1));

        Sentence.of(0, "ROUNDS: groups of MEN whose threads lie, all that are linked being one.");
        Check.due("one chain", 1, chain().rounds());
        town = Check.town("town 12 2;man a 0 0;man b 1 0;man c 2 0;man d 3 0;man e 4 0;man f 5 0;man g 6 0;");
        Check.due("none lies", 0, town.rounds());
        for (int man = 0; man < 7; man++) {
            Check.due("step", true, town.step(man, 1));
            Check.due("each alone", man + 1, town.rounds());
        }
        Check.steps(town, "a23");
        Check.due("a and b", 6, town.rounds());
        Check.steps(town, "g43");
        Check.due("g and f", 5, town.rounds());
        Check.steps(town, "a222221");
        Check.due("a and g, who has f", 4, town.rounds());
        Check.due("cut", 9, town.cut(0));
        Check.due("f and g, and four", 5, town.rounds());
        Sentence.of(33, "ROUNDS.");
        Check.due("without MEN", 0, new ThreadTown().rounds());
        Check.due("one", 1, lone().rounds());
    }

    private static ThreadTown lone() {
        ThreadTown town = Check.town("town 12 12;man a 11 11;");
        Check.steps(town, "a3");
        return town;
    }

    private static void crowds() {
        Sentence.of(0, "CROWD: the corner to which threads of most MEN come (his DOOR, if a PIECE lies; where a PIECE "
            + "ends),");
        ThreadTown town = Check.town("town 12 12;man a 5 5;man b 6 6;man c 7 5;man d 7 5;man e 7 5;");
        Check.steps(town, "a2");
        Check.due("his DOOR, of the least x", 505, town.crowd(0));
        Check.due("no others' DOORS", 1, town.crowd(1));
        Check.steps(town, "a3");
        Check.due("of the least y", 406, town.crowd(0));
        Check.steps(town, "b3");
        Check.due("where PIECES end, also in the midst of a thread", 506, town.crowd(0));
        Check.due("two", 2, town.crowd(1));
        Check.steps(town, "a13131");
        Check.due("each once", 2, town.crowd(1));
        Check.steps(town, "c4d1");
        Check.due("three", 506, town.crowd(0));
        Check.due("a, b and c", 3, town.crowd(1));
        Sentence.of(0, "of alike ones that of the least y, then x.");
        Check.steps(town, "e1");
        Check.due("the least x", 506, town.crowd(0));
        Check.due("three", 3, town.crowd(1));
        Check.due("cut", 1, town.cut(2));
        Check.due("two of some", 2, town.crowd(1));
        Check.due("the least x", 506, town.crowd(0));
        Check.due("cut", 1, town.cut(1));
        Check.due("d and e at their DOORS", 507, town.crowd(0));
        town = Check.town("town 12 12;man a 1 0;");
        Check.steps(town, "a2");
        Check.due("the second corner of all", 1, town.crowd(0));
        town = Check.town("town 12 12;man a 0 11;man b 11 0;");
        Check.steps(town, "a3b1");
        Check.due("the least y, though x is the greatest", 11, town.crowd(0));
        Sentence.of(34, "CROWD: what 0 100 * y + x, 1 of how many MEN;");
        town = Check.town("town 12 12;man a 11 11;man b 11 10;man c 11 11;");
        Check.steps(town, "a4b1c4");
        Check.due("the last corner", 1111, town.crowd(0));
        Check.due("three", 3, town.crowd(1));
        town = Check.town(SEVEN);
        Check.steps(town, "a1b2c1d2e1f2g1");
        Check.due("the first corner", 0, town.crowd(0));
        Check.due("seven", 7, town.crowd(1));
        Sentence.of(34, "-2: no thread lies;");
        town = lone();
        Check.due("home", 1, town.home(0));
        for (int what = 0; what < 2; what++) {
            Check.due("without MEN", -2, new ThreadTown().crowd(what));
            Check.due("of seven", -2, Check.town(SEVEN).crowd(what));
            Check.due("behind home", -2, town.crowd(what));
        }
        Sentence.of(34, "NONE for others.");
        for (int what : new int[] {-1, 2, LEAST, MOST}) {
            Check.due("crowd " + what, -1, lone().crowd(what));
        }
    }

    private static void near() {
        Sentence.of(37, "The MAN nearest to a MAN (by x and by y, LOST ones, too): what 0 who (of alike ones the "
            + "first), 1 how far;");
        ThreadTown town = Check.town("town 12 12;man a 0 0;man b 11 11;man c 0 0;man d 3 0;man e 0 3;man f 2 2;");
        int[][] due = {{2, 0}, {5, 18}, {0, 0}, {0, 3}, {0, 3}, {3, 3}};
        for (int man = 0; man < 6; man++) {
            Check.due("who " + man, due[man][0], town.nearest(man, 0));
            Check.due("how far " + man, due[man][1], town.nearest(man, 1));
        }
        town = Check.town("town 12 12;man a 0 0;man b 11 11;");
        Check.due("from end to end", 22, town.nearest(0, 1));
        Check.due("who", 0, town.nearest(1, 0));
        town = Check.town("town 12 12;man a 5 5;man b 6 6;man c 4 4;man d 5 7;");
        Check.due("of alike ones the first", 1, town.nearest(0, 0));
        Check.steps(town, "c1");
        Check.due("where they are now", 2, town.nearest(0, 0));
        Check.due("cut", 1, town.cut(2));
        Check.due("LOST ones, too", 2, town.nearest(0, 0));
        Check.due("one away", 1, town.nearest(0, 1));
        Check.due("of a LOST one", 0, town.nearest(2, 0));
        Sentence.of(37, "-2: there is no other one;");
        Check.due("who", -2, lone().nearest(0, 0));
        Check.due("how far", -2, lone().nearest(0, 1));
        Sentence.of(37, "NONE: no such ones.");
        for (int other : new int[] {-1, 4, 7, LEAST, MOST}) {
            Check.due("of " + other, -1, town.nearest(other, 0));
            Check.due("how far from " + other, -1, town.nearest(other, 1));
        }
        for (int what : new int[] {-1, 2, LEAST, MOST}) {
            Check.due("what " + what, -1, town.nearest(0, what));
        }
        Check.due("without MEN", -1, new ThreadTown().nearest(0, 0));
        Check.due("of another one than the only one", -1, lone().nearest(1, 0));
    }

    static void run() {
        streets();
        shows();
        known();
        links();
        crowds();
        near();
    }
}
