/** Sentence by sentence: WAYS, who can LIVE where, TURNS, PLAIN DAYS, THIEVES (promises 19 to 22, 35, 36). */
final class ErrandSentences {
    private static final int LEAST = Integer.MIN_VALUE;
    private static final int MOST = Integer.MAX_VALUE;

    /** To the left first: 2 and 8, not 1 and 3 and 8. */
    private static final String NOT_THE_NEAREST = "town 12 2;man a 3 0;errand a 4 0;errand a 1 0;errand a 9 0;";

    private ErrandSentences() {
    }

    private static void way(String text, int fewest, int... order) {
        ThreadTown town = Check.town(text);
        Check.due("way by " + text, fewest, town.way(0));
        for (int i = 0; i < order.length; i++) {
            Check.due("way by " + text + " at " + i, order[i], town.wayAt(0, i));
        }
        Check.due("way by " + text + " behind its end", -1, town.wayAt(0, order.length));
    }

    private static void ways() {
        Sentence.of(0, "WAY of a MAN: the fewest PIECES from his DOOR by all his ERRANDS (in whatever order; "
            + "0 without): by x and by y;");
        way("man a 3 3;", 0);
        way("man a 3 3;errand a 3 3;", 0, 0);
        way("man a 0 0;errand a 5 5;", 10, 0);
        way("town 12 12;man a 0 0;errand a 11 11;", 22, 0);
        way("man a 2 0;errand a 5 0;errand a 0 0;", 7, 1, 0);
        way("man a 3 0;errand a 5 0;errand a 0 0;", 7, 0, 1);
        way("town 12 12;man a 0 0;errand a 11 11;errand a 0 11;errand a 11 0;errand a 0 0;errand a 11 11;"
            + "errand a 5 5;", 43, 3, 5, 1, 0, 4, 2);
        Sentence.of(0, "the order: of alike ones the first by numbers, the first place first.");
        way("man a 2 2;errand a 2 3;errand a 2 1;", 3, 0, 1);
        way("man a 2 2;errand a 2 1;errand a 2 3;", 3, 0, 1);
        way("man a 1 1;errand a 1 1;errand a 1 1;errand a 1 1;errand a 1 1;errand a 1 1;errand a 1 1;", 0,
            0, 1, 2, 3, 4, 5);
        way("man a 0 0;errand a 2 2;errand a 1 0;errand a 0 1;", 6, 1, 2, 0);
        way("man a 1 0;errand a 0 0;errand a 2 0;errand a 2 1;errand a 0 1;", 5, 0, 3, 2, 1);
        way("town 12 12;man a 5 9;errand a 9 5;errand a 5 8;errand a 0 5;", 17, 1, 0, 2);
        way("town 12 12;man a 9 5;errand a 5 9;errand a 8 5;errand a 5 0;", 17, 1, 0, 2);

        Sentence.of(19, "WAY: the fewest PIECES;");
        ThreadTown town = Check.town("man a 0 0;man b 5 5;errand a 4 0;errand b 5 4;long = 1;");
        Check.steps(town, "a1");
        Check.due("from his DOOR, longer than his thread", 4, town.way(0));
        Check.due("another one's", 1, town.way(1));
        Sentence.of(19, "NONE: no such MAN.");
        int[] none = {-1, 2, 7, LEAST, MOST};
        for (int man : none) {
            Check.due("way " + man, -1, town.way(man));
        }
        Check.due("without MEN", -1, new ThreadTown().way(0));
        Sentence.of(20, "The i-th ERRAND of its order (by number among his);");
        town = Check.town(NOT_THE_NEAREST);
        Check.due("not the nearest one first", 1, town.wayAt(0, 0));
        Check.due("then that", 0, town.wayAt(0, 1));
        town = Check.town("man a 0 0;man b 0 0;errand b 5 0;errand a 1 0;errand b 1 0;errand b 3 0;");
        int[] order = {1, 2, 0};
        for (int i = 0; i < 3; i++) {
            Check.due("b's at " + i, order[i], town.wayAt(1, i));
        }
        Check.due("a's", 0, town.wayAt(0, 0));
        Sentence.of(20, "NONE: not so many, no such MAN.");
        for (int i : new int[] {3, 6, -1, LEAST, MOST}) {
            Check.due("b's at " + i, -1, town.wayAt(1, i));
        }
        for (int i : new int[] {1, 2, -1}) {
            Check.due("a's at " + i, -1, town.wayAt(0, i));
        }
        for (int man : none) {
            Check.due("wayAt of " + man, -1, town.wayAt(man, 0));
        }
        Check.due("none told", -1, Check.town("man a 0 0;").wayAt(0, 0));
        Check.due("without MEN", -1, new ThreadTown().wayAt(0, 0));
    }

    private static void lives(int due, String text) {
        Check.due("lives by " + text, due, Check.town(text).lives(0));
    }

    private static void homes() {
        Sentence.of(0, "LIVES: corners from which a thread as LONG as his would do for them: how many.");
        lives(144, "town 12 12;man a 5 5;long = 0;");
        lives(4, "town 2 2;man a 0 0;");
        lives(1, "man a 0 0;errand a 2 2;long = 0;");
        lives(5, "man a 0 0;errand a 2 2;long = 1;");
        lives(3, "man a 0 0;errand a 0 0;long = 1;");
        lives(0, "man a 0 0;errand a 0 0;errand a 3 0;long = 2;");
        lives(2, "man a 0 0;errand a 0 0;errand a 3 0;long = 3;");
        lives(7, "man a 0 0;errand a 0 0;errand a 3 0;long = 4;");
        lives(143, "town 12 12;man a 0 0;errand a 0 0;long = 21;");
        lives(144, "town 12 12;man a 0 0;errand a 0 0;long = 22;");
        Sentence.of(21, "LIVES;");
        // 8 from end to end: from all corners of y 0 but (5, 0), of y 1 but (4, 1), (5, 1) and (6, 1).
        Check.due("as by the WAY", 20, Check.town(NOT_THE_NEAREST + "long = 11;").lives(0));
        ThreadTown town = Check.town("town 3 3;man a 2 1;errand a 1 1;man b 0 1;errand b 1 1;long = x / 2;");
        Check.due("by how LONG his is", 5, town.lives(0));
        Check.due("by how LONG the other one's is", 1, town.lives(1));
        Check.steps(town, "a1");
        Check.due("cut", 0, town.cut(1));
        Check.due("not by what is LEFT", 5, town.lives(0));
        Check.due("of a LOST one", 1, town.lives(1));
        Sentence.of(21, "NONE: no such MAN.");
        for (int man : new int[] {-1, 2, 7, LEAST, MOST}) {
            Check.due("lives " + man, -1, town.lives(man));
        }
        Check.due("without MEN", -1, new ThreadTown().lives(0));
    }

    private static void turns(ThreadTown town, int man, int... due) {
        for (int i = 0; i < due.length; i++) {
            Check.due("turns of " + man + " about " + i, due[i], town.turns(man, i));
        }
        Check.due("turns about no PILLAR", -1000, town.turns(man, due.length));
    }

    private static void pillars() {
        Sentence.of(0, "TURNS of a MAN about a PILLAR: how many of his PIECES go to greater y on STREETS at greater x "
            + "than it between its y and the next, less how many go to lesser y there.");
        String corners = "town 12 12;man a 1 1;man b 11 10;pillar 1 1;pillar 0 1;pillar 1 0;pillar 1 2;pillar 2 1;"
            + "pillar 10 10;";
        ThreadTown town = Check.town(corners);
        turns(town, 0, 0, 0, 0, 0, 0, 0);
        Check.steps(town, "a1");
        turns(town, 0, 0, 1, 0, 0, 0, 0);
        Check.steps(town, "a23");
        turns(town, 0, -1, 0, 0, 0, 0, 0);
        Check.steps(town, "a4");
        turns(town, 0, -1, 0, 0, 0, 0, 0);
        Check.steps(town, "a221");
        turns(town, 0, 0, 1, 0, 0, 1, 0);
        Check.steps(town, "a1");
        turns(town, 0, 0, 1, 0, 1, 1, 0);
        Check.steps(town, "b1");
        turns(town, 1, 0, 0, 0, 0, 0, 1);
        Check.steps(town, "b3");
        turns(town, 1, 0, 0, 0, 0, 0, 0);
        Sentence.of(22, "TURNS about the i-th PILLAR (it may be below 0);");
        town = Check.town("man a 1 0;pillar 0 0;long = 60;goes a = if minute - minute / 4 * 4 < 1 then 1 else if "
            + "minute - minute / 4 * 4 < 2 then 4 else if minute - minute / 4 * 4 < 3 then 3 else 2;");
        Check.due("run", 60, town.run(60));
        turns(town, 0, 15);
        town = Check.town("man a 1 1;pillar 0 0;long = 60;goes a = if minute - minute / 4 * 4 < 1 then 3 else if "
            + "minute - minute / 4 * 4 < 2 then 4 else if minute - minute / 4 * 4 < 3 then 1 else 2;");
        Check.due("run", 60, town.run(60));
        turns(town, 0, -15);
        Check.due("wind", true, town.wind(0));
        turns(town, 0, -15);
        Check.due("home", 59, town.home(0));
        turns(town, 0, 0);
        Sentence.of(22, "-1000: no such ones.");
        int[][] none = {{0, 1}, {0, -1}, {0, 6}, {0, LEAST}, {0, MOST}, {1, 0}, {-1, 0}, {7, 0}, {LEAST, 0}, {MOST, 0},
            {-1, -1}};
        for (int[] row : none) {
            Check.due("turns " + row[0] + " " + row[1], -1000, town.turns(row[0], row[1]));
        }
        Check.due("none told", -1000, Check.town("man a 0 0;").turns(0, 0));
        Check.due("without MEN", -1000, Check.town("pillar 0 0;").turns(0, 0));

        Sentence.of(0, "THIEVES: MEN whose TURNS about some PILLAR are below 0.");
        town = Check.town("man a 1 0;man b 1 1;man c 2 3;pillar 0 0;pillar 1 2;");
        Check.due("none", 0, town.thieves());
        Check.steps(town, "a1");
        Check.due("above 0", 0, town.thieves());
        Check.steps(town, "a3");
        Check.due("0 again", 0, town.thieves());
        Check.steps(town, "b3c3");
        Check.due("about one each", 6, town.thieves());
        Check.steps(town, "a4123");
        Check.due("all three", 7, town.thieves());
        Check.steps(town, "a411221");
        Check.due("above 0 about another one", 7, town.thieves());
        Sentence.of(36, "THIEVES (bits).");
        Check.due("without MEN", 0, new ThreadTown().thieves());
        Check.due("without PILLARS", 0, all("").thieves());
        Check.due("all seven", 127, all("pillar 0 0;").thieves());
        Check.due("about the last one of six", 127, all("pillar 9 9;".repeat(5) + "pillar 0 0;").thieves());
        town = all("pillar 0 0;");
        Check.due("cut", 1, town.cut(6));
        Check.due("not a LOST one", 63, town.thieves());
    }

    /** Seven MEN, each with one PIECE from (1, 1) to (1, 0). */
    private static ThreadTown all(String pillars) {
        StringBuilder text = new StringBuilder(pillars);
        for (char name = 'a'; name <= 'g'; name++) {
            text.append("man ").append(name).append(" 1 1;");
        }
        ThreadTown town = Check.town(text.toString());
        Check.steps(town, "a3b3c3d3e3f3g3");
        return town;
    }

    private static void plain(int times, int choices, String text) {
        ThreadTown town = Check.town(text);
        Check.due("plain day of " + text, times, town.plain(0));
        Check.due("choices of " + text, choices, town.plain(1));
    }

    private static void plainDays() {
        Sentence.of(0, "A PLAIN DAY: MEN go one after the other by numbers, each by all his ERRANDS in the order of "
            + "his WAY, each leg first by x and then by y, or (one choice for all his legs) first by y, however LONG "
            + "his thread: CHOICES (bits of those who go by y first) with which PIECES of two MEN lie on one another "
            + "fewest times together;");
        plain(2, 0, "man a 0 0;errand a 2 0;man b 0 0;errand b 2 0;");
        plain(6, 0, "man a 0 0;errand a 2 0;man b 0 0;errand b 2 0;man c 0 0;errand c 2 0;long = 0;");
        plain(0, 1, "man a 0 0;errand a 2 2;man b 0 0;errand b 2 0;");
        plain(0, 2, "man a 0 0;errand a 2 0;man b 0 0;errand b 2 2;");
        // One choice for both legs: by x first it costs two with b, by y first one or two with c.
        plain(1, 1, "man a 0 0;errand a 2 2;errand a 4 4;man b 0 0;errand b 2 0;man c 2 2;errand c 2 3;");
        plain(2, 0, "man a 0 0;errand a 2 2;errand a 4 4;man b 0 0;errand b 2 0;man c 2 2;errand c 2 4;");
        // b goes there and back on one STREET of a's.
        plain(3, 0, "man a 0 0;errand a 2 0;man b 1 0;errand b 0 0;errand b 3 0;");
        plain(0, 1, "man a 0 0;errand a 2 2;errand a 4 4;man b 2 2;errand b 4 2;");
        plain(10, 0, NOT_THE_NEAREST + "man b 1 0;errand b 9 0;");
        // In the order of his WAY a does not come back to his second errand.
        plain(2, 0, "man a 0 0;errand a 4 0;errand a 2 0;man b 2 0;errand b 4 0;");
        Sentence.of(0, "of alike ones the least bits.");
        plain(0, 1, "man a 0 0;errand a 2 2;man b 0 0;errand b 2 2;");
        plain(0, 0, "man a 0 0;errand a 2 2;man b 0 0;errand b 0 2;");
        plain(4, 1, "man a 0 0;errand a 2 2;man b 0 0;errand b 2 2;man c 0 0;errand c 2 2;");
        plain(2, 2, "man a 0 0;errand a 2 2;man b 0 0;errand b 3 2;man c 0 0;errand c 4 0;");
        Sentence.of(35, "A PLAIN DAY: what 0 how many times, 1 CHOICES;");
        plain(0, 0, "");
        plain(0, 0, "man a 0 0;man b 0 0;");
        plain(0, 64, "man a 0 0;man b 0 0;man c 0 0;man d 0 0;man e 0 0;man f 0 0;man g 0 0;errand a 2 0;"
            + "errand g 2 2;");
        StringBuilder most = new StringBuilder("town 12 12;");
        for (char name = 'a'; name <= 'g'; name++) {
            most.append("man ").append(name).append(" 0 0;");
            for (int i = 0; i < 6; i++) {
                most.append("errand ").append(name).append(i % 2 == 0 ? " 11 0;" : " 0 0;");
            }
        }
        plain(21 * 11, 0, most.toString());
        ThreadTown town = Check.town("man a 0 0;errand a 2 0;man b 0 0;errand b 2 0;");
        Check.steps(town, "a111");
        Check.due("cut", 0, town.cut(1));
        Check.due("who", 0, town.plain(1));
        Check.due("whatever lies, whoever is LOST", 2, town.plain(0));
        Check.due("asked again", 2, town.plain(0));
        Sentence.of(35, "NONE for others.");
        for (int what : new int[] {-1, 2, LEAST, MOST}) {
            Check.due("plain " + what, -1, town.plain(what));
            Check.due("plain without MEN " + what, -1, new ThreadTown().plain(what));
        }
    }

    static void run() {
        ways();
        homes();
        pillars();
        plainDays();
    }
}
