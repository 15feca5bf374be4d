/** Sentence by sentence: Terms II, and promises 6 to 13 and 42 to 44 (what MEN do, and undoing it). */
final class WalkSentences {
    private static final int LEAST = Integer.MIN_VALUE;
    private static final int MOST = Integer.MAX_VALUE;

    private WalkSentences() {
    }

    /** LOT n of a SEED and a which, by the document's words, on whole numbers without a sign. */
    static int lot(int n, int seed, int which) {
        long h = seed;
        for (int it : new int[] {28, which}) {
            h = ((h ^ it) * 1103515245L + 12345L) & 0xffffffffL;
            h = h ^ (h >> 15);
        }
        return (int) ((h >> 1) % n);
    }

    private static void where(ThreadTown town, int man, int x, int y) {
        Check.due("x of " + man, x, town.man(man, 0));
        Check.due("y of " + man, y, town.man(man, 1));
    }

    /** What GOES tells a MAN in the midst of a TOWN of 5 by 5. */
    private static int goes(String law) {
        return Check.town("town 5 5;man z 0 0;man a 2 3;goes a = " + law + ";long = 20;").man(1, 6);
    }

    private static void streets() {
        Sentence.of(0, "A STREET joins two corners beside one another (by x or by y).");
        ThreadTown town = Check.town("town 3 2;");
        int[][] steps = {{0, 0}, {0, 1}, {1, 0}, {0, -1}, {-1, 0}, {0, 0}};
        for (int x = -1; x <= 3; x++) {
            for (int y = -1; y <= 2; y++) {
                for (int way = 0; way <= 5; way++) {
                    int toX = x + steps[way][0];
                    int toY = y + steps[way][1];
                    boolean there = way % 5 != 0 && x >= 0 && x < 3 && y >= 0 && y < 2 && toX >= 0 && toX < 3
                        && toY >= 0 && toY < 2;
                    Check.due("STREET " + x + " " + y + " " + way, there ? 0 : -1, town.street(x, y, way, -1));
                }
            }
        }

        Sentence.of(0, "A STEP of a MAN (1 to greater y, 2 to greater x, 3 to lesser y, 4 to lesser x):");
        int[][] to = {{2, 3}, {3, 2}, {2, 1}, {1, 2}};
        for (int way = 1; way <= 4; way++) {
            town = Check.town("town 5 5;man a 2 2;");
            Check.due("step " + way, true, town.step(0, way));
            where(town, 0, to[way - 1][0], to[way - 1][1]);
            Check.due("one PIECE, there", 1, town.street(2, 2, way, -1));
        }

        Sentence.of(0, "a PIECE of his thread comes to lie on that STREET, on top of what lies there, "
            + "if the corner is in the TOWN");
        town = Check.town("town 2 3;man a 0 0;man b 1 2;");
        int[][] outside = {{0, 3}, {0, 4}, {1, 1}, {1, 2}};
        for (int[] step : outside) {
            Check.due("out of the TOWN", false, town.step(step[0], step[1]));
        }
        Check.steps(town, "a121b34a34");
        int[] whose = {0, 1, 0};
        for (int i = 0; i < 3; i++) {
            Check.due("on the STREET", whose[i], town.street(0, 1, 2, i));
        }
        Check.due("lowest", 0, town.piece(0, 1, 1));
        Check.due("on top of one", 1, town.piece(1, 1, 1));
        Check.due("on top of two", 2, town.piece(0, 4, 1));
        Check.due("out of the TOWN", false, town.step(0, 4));
        Check.due("out of the TOWN", false, town.step(1, 4));

        Sentence.of(0, "and he has PIECES LEFT (how LONG his thread is, less those that lie).");
        Check.due("none LEFT of 0", false, Check.town("man a 0 0;long = 0;").step(0, 1));
        town = Check.town("man a 0 0;man b 0 0;long = 60 - 59 * rank;");
        for (int i = 0; i < 60; i++) {
            Check.due("LEFT", 60 - i, town.man(0, 3));
            Check.due("step " + i, true, town.step(0, i % 2 == 0 ? 1 : 3));
        }
        Check.due("the 61st", false, town.step(0, 1));
        Check.due("none LEFT", 0, town.man(0, 3));
        Check.due("one", true, town.step(1, 2));
        Check.due("no second", false, town.step(1, 4));
        Check.due("wind", true, town.wind(0));
        Check.due("one LEFT again", true, town.step(0, 1));
        Check.due("none again", false, town.step(0, 1));
    }

    private static void windings() {
        Sentence.of(0, "WIND: his last PIECE is taken up, and he goes back over its STREET, "
            + "if no PIECE lies on top of it there.");
        ThreadTown town = Check.town("man a 1 1;man b 1 1;");
        Check.steps(town, "a1423b41");
        int[][] back = {{1, 2}, {0, 2}, {1, 2}};
        for (int[] corner : back) {
            Check.due("wind", true, town.wind(0));
            where(town, 0, corner[0], corner[1]);
        }
        Check.steps(town, "b2");
        Check.due("b's last PIECE lies elsewhere", true, town.wind(0));
        where(town, 0, 1, 1);
        Check.due("none lies", false, town.wind(0));
        Check.steps(town, "b3");
        Check.steps(town, "a1");
        Check.due("a's lies on b's last", false, town.wind(1));
        where(town, 1, 1, 1);
        Check.due("he goes back", true, town.wind(0));
        Check.due("now b can", true, town.wind(1));
        where(town, 1, 1, 2);

        Sentence.of(0, "HOME: he WINDS till he is at his DOOR with no PIECE left lying,");
        town = Check.town("man a 1 1;man b 1 1;");
        Check.steps(town, "a1342");
        where(town, 0, 1, 1);
        Check.due("through his DOOR and on", 4, town.home(0));
        where(town, 0, 1, 1);
        Check.due("none lies", 0, town.count(4));
        Sentence.of(0, "or as far as he can.");
        Check.steps(town, "a1234b1");
        Check.due("as far as he can", 3, town.home(0));
        where(town, 0, 1, 2);
        Check.due("one lies", 1, town.man(0, 2));

        Sentence.of(0, "CUT: all his PIECES are gone, he is LOST: he STEPS and WINDS no more.");
        town = Check.town("man a 0 0;man b 0 0;man c 0 0;goes b = 2;");
        Check.steps(town, "a1b1c1b3b1");
        Check.due("b over", 5, town.over(1, 0) + town.over(1, 2));
        Check.due("CUT", 3, town.cut(1));
        Check.due("two lie", 2, town.street(0, 0, 1, -1));
        Check.due("a's below", 0, town.street(0, 0, 1, 0));
        Check.due("c's above", 2, town.street(0, 0, 1, 1));
        Check.due("c lies on one", 1, town.piece(2, 0, 1));
        where(town, 1, 0, 1);
        ThreadTown pile = Check.town("man a 0 0;man b 0 0;man c 0 0;man d 0 0;man e 0 0;");
        Check.steps(pile, "a1b1c1d1e1a3");
        int[][] cuts = {{0, 2, 1, 2, 3, 4}, {2, 1, 1, 3, 4}, {1, 1, 3, 4}, {4, 1, 3}, {3, 1}};
        for (int[] row : cuts) {
            Check.due("CUT " + row[0], row[1], pile.cut(row[0]));
            Check.due("the others lie", row.length - 2, pile.street(0, 0, 1, -1));
            for (int i = 2; i < row.length; i++) {
                Check.due("as they lay", row[i], pile.street(0, 0, 1, i - 2));
            }
        }
        pile = Check.town("man a 0 0;man b 0 0;man c 0 0;man d 0 0;");
        Check.steps(pile, "b1d1a1c1");
        Check.due("CUT the lowest", 1, pile.cut(1));
        int[] stay = {3, 0, 2, -1};
        for (int i = 0; i < 4; i++) {
            Check.due("as they lay", stay[i], pile.street(0, 0, 1, i));
        }
        for (int way = 1; way <= 4; way++) {
            Check.due("LOST steps", false, town.step(1, way));
        }
        Check.due("LOST winds", false, town.wind(1));
        Check.due("LOST goes home", -1, town.home(1));
        Check.due("run", 5, town.run(5));
        where(town, 1, 0, 1);
        Check.due("LOST", 1, town.man(1, 4));
    }

    private static void minutes() {
        Sentence.of(0, "A MINUTE: MAN by MAN, who is not LOST, does what GOES tells,");
        ThreadTown town = Check.town("man a 0 0;man b 0 0;man c 0 0;goes a = 1;goes b = 1;goes c = 1;");
        town.cut(1);
        Check.due("run", 1, town.run(1));
        Check.due("a first", 0, town.street(0, 0, 1, 0));
        Check.due("then c", 2, town.street(0, 0, 1, 1));
        Check.due("not b", -1, town.street(0, 0, 1, 2));

        Sentence.of(0, "its rest by 6 (below 0: 0):");
        int[] values = {0, 1, 2, 3, 4, 5, 6, 7, 11, 12, 9999};
        int[] rests = {0, 1, 2, 3, 4, 5, 0, 1, 5, 0, 3};
        for (int i = 0; i < values.length; i++) {
            Check.due("rest of " + values[i], rests[i], goes("" + values[i]));
            Check.due("rest of minus " + values[i], 0, goes("0 - " + values[i]));
        }

        Sentence.of(0, "0 nothing, 1 .. 4 a STEP (nothing if he can't), 5 WINDS (nothing if he can't). "
            + "Then it is the next minute.");
        int[][] to = {{2, 2}, {2, 3}, {3, 2}, {2, 1}, {1, 2}, {2, 2}};
        for (int what = 0; what < 6; what++) {
            town = Check.town("town 5 5;man a 2 2;goes a = " + what + ";");
            Check.due("run", 1, town.run(1));
            where(town, 0, to[what][0], to[what][1]);
            Check.due("the next minute", 1, town.count(3));
        }
        town = Check.town("town 2 2;man a 0 0;man b 1 1;man c 0 0;goes a = 3 + minute;goes b = 1 + minute;"
            + "goes c = if minute < 1 then 2 else 5;long = 2 - rank / 2;");
        Check.due("out of the TOWN", 2, town.run(2));
        where(town, 0, 0, 0);
        where(town, 1, 1, 1);
        Check.due("c went and came back", 0, town.man(2, 2));
        Check.due("none lies to wind", 3, town.run(1));
        where(town, 2, 0, 0);
        town = Check.town("town 2 2;man a 0 0;man b 0 0;goes a = if minute < 1 then 1 else 5;goes b = 1;long = 1;");
        Check.due("run", 4, town.run(4));
        where(town, 0, 0, 1);
        Check.due("b lies on it", 1, town.man(0, 2));
        town = Check.town("man a 0 0;goes a = 1;long = 3;");
        Check.due("run", 5, town.run(5));
        where(town, 0, 0, 3);
    }

    private static void lawValues() {
        Sentence.of(0, "LAWS: the E of the first if that holds (one less than the other), else the last one;");
        Check.due("less", 1, goes("if 1 < 2 then 1 else 2"));
        Check.due("alike", 2, goes("if 2 < 2 then 1 else 2"));
        Check.due("greater", 2, goes("if 3 < 2 then 1 else 2"));
        Check.due("below 0", 1, goes("if 0 - 1 < 0 then 1 else 2"));
        Check.due("not by 0", 2, goes("if 0 < 0 - 1 then 1 else 2"));
        String four = "if x + 0 < %d then 1 else if x < %d then 2 else if x < %d then 3 else if x < %d then 4 else 5";
        int[][] holds = {{3, 9, 9, 9, 1}, {2, 3, 3, 9, 2}, {2, 2, 3, 9, 3}, {0, 1, 2, 3, 4}, {0, 1, 2, 2, 5}};
        for (int[] row : holds) {
            Check.due("first that holds", row[4], goes(String.format(four, row[0], row[1], row[2], row[3])));
        }

        Sentence.of(0, "ints of 32 bits that wrap, / rounded towards 0;");
        Check.due("2 to the 31 is below 0", 4, goes("if 8192 * 8192 * 32 < 0 then 4 else 3"));
        Check.due("one less is above 0", 3, goes("if 8192 * 8192 * 32 - 1 < 0 then 4 else 3"));
        Check.due("2 to the 32 is 0", 4, goes("8192 * 8192 * 64 + 4"));
        Check.due("the least one, made positive, is itself", 4, goes("if 0 - 8192 * 8192 * 32 < 0 then 4 else 3"));
        Check.due("the least one by minus 1 is itself", 4, goes("if 8192 * 8192 * 32 / (0 - 1) < 0 then 4 else 3"));
        Check.due("its rest is below 0", 0, goes("8192 * 8192 * 32 / (0 - 1)"));
        Check.due("9999 to the 4", 9999 * 9999 * 9999 * 9999 / 7 % 6, goes("9999 * 9999 * 9999 * 9999 / 7"));
        Check.due("7 / 2", 3, goes("7 / 2"));
        Check.due("minus 7 / 2", 3, goes("6 + (0 - 7) / 2"));
        Check.due("7 / minus 2", 3, goes("6 + 7 / (0 - 2)"));
        Check.due("minus 7 / minus 2", 3, goes("(0 - 7) / (0 - 2)"));
        Check.due("minus 1 / 2", 4, goes("(0 - 1) / 2 + 4"));

        Sentence.of(0, "a LAW in which something that is looked at is divided by 0 is 0.");
        Check.due("by 0", 0, goes("1 / 0"));
        Check.due("0 by 0", 0, goes("0 / 0 + 3"));
        Check.due("all of it", 0, goes("3 + 1 / (x - x)"));
        Check.due("times 0", 0, goes("3 + 0 * (1 / 0)"));
        Check.due("in the first if", 0, goes("if 1 / 0 < 5 then 3 else 4"));
        Check.due("on its right side", 0, goes("if 0 - 1 < 1 / 0 then 3 else 4"));
        Check.due("in a later if", 0, goes("if 2 < 1 then 3 else if 1 / 0 < 5 then 3 else 4"));
        Check.due("behind then", 0, goes("if 1 < 2 then 1 / 0 else 4"));
        Check.due("behind else", 0, goes("if 2 < 1 then 4 else 1 / 0"));
        Check.due("not looked at behind then", 4, goes("if 2 < 1 then 1 / 0 else 4"));
        Check.due("not looked at behind else", 4, goes("if 1 < 2 then 4 else 1 / 0"));
        Check.due("not looked at in a later if", 3, goes("if 1 < 2 then 3 else if 1 / 0 < 5 then 2 else 1"));
        Check.due("of LONG", 0, Check.town("man a 0 0;long = 9 / minute;").man(0, 3));
        Check.due("0 by another one", 3, goes("0 / 5 + 3"));
    }

    private static void lawVars() {
        Sentence.of(0, "x, y: where he is (LONG: his DOOR);");
        ThreadTown town = Check.town("town 5 5;man a 1 2;long = 10 * x + y;goes a = x;man b 1 2;goes b = y;");
        Check.due("LONG", 12, town.man(0, 3));
        Check.steps(town, "a22b11");
        Check.due("x", 3, town.man(0, 6));
        Check.due("y", 4, town.man(1, 6));
        Check.due("LONG as it was", 10, town.man(0, 3));
        Sentence.of(0, "minute (LONG: 0);");
        town = Check.town("man a 0 0;goes a = minute;long = 5 + minute;");
        for (int minute = 0; minute < 6; minute++) {
            Check.due("minute", minute, town.man(0, 6));
            Check.due("LONG", 5, town.man(0, 2) + town.man(0, 3));
            town.run(1);
        }
        Sentence.of(0, "left: PIECES LEFT (LONG: 0);");
        town = Check.town("man a 0 0;goes a = left;long = 5 + left;");
        Check.due("LONG", 5, town.man(0, 3));
        for (int left = 5; left > 0; left--) {
            Check.due("left", left, town.man(0, 6));
            Check.due("step", true, town.step(0, left % 2 == 0 ? 1 : 3) || town.step(0, 1));
        }
        Check.due("none left", 0, town.man(0, 6));
        Sentence.of(0, "lot: LOT 100 of the SEED and 8 times the minute and his number (LONG: 0);");
        for (int seed : new int[] {0, 1, 4711, 9999}) {
            ThreadTown[] digits = new ThreadTown[3];
            for (int i = 0; i < 3; i++) {
                String law = "lot / " + new int[] {1, 6, 36}[i] + ";";
                digits[i] = Check.town("seed " + seed + ";man a 0 0;man b 0 0;man c 0 0;man d 0 0;goes a = " + law
                    + "goes b = " + law + "goes d = " + law + "long = 5 + lot;town 12 12;");
                Check.due("LONG", 5, digits[i].man(2, 3));
            }
            for (int minute = 0; minute < 9; minute++) {
                for (int man : new int[] {0, 1, 3}) {
                    int lot = digits[0].man(man, 6) + 6 * digits[1].man(man, 6) + 36 * digits[2].man(man, 6);
                    Check.due("lot " + minute + " " + man, lot(100, seed, 8 * minute + man), lot);
                }
                for (int i = 0; i < 3; i++) {
                    digits[i].run(1);
                }
            }
        }
        Sentence.of(0, "rank: his number.");
        town = Check.town("man a 0 0;man b 0 0;man c 0 0;man d 0 0;man e 0 0;man f 0 0;man g 0 0;"
            + "goes a = rank;goes f = rank;goes g = rank - 2;long = 10 + rank;");
        int[] ranks = {0, 0, 0, 0, 0, 5, 4};
        for (int man = 0; man < 7; man++) {
            Check.due("rank", ranks[man], town.man(man, 6));
            Check.due("LONG", 10 + man, town.man(man, 3));
        }
        Sentence.of(0, "LONG held to 0 .. 60.");
        String[] laws = {"0", "1", "59", "60", "61", "9999", "0 - 1", "0 - 9999", "8192 * 8192 * 32", "1 / 0"};
        int[] longs = {0, 1, 59, 60, 60, 60, 0, 0, 0, 0};
        for (int i = 0; i < laws.length; i++) {
            Check.due("LONG " + laws[i], longs[i], Check.town("man a 0 0;long = " + laws[i] + ";").man(0, 3));
        }
        Check.due("not by its rest", 60, Check.town("man a 0 0;long = 66;").man(0, 3));
    }

    private static void lots() {
        Sentence.of(0, "LOT n of a SEED and a which: h is the SEED; for each of 28, which: h becomes (h and it, each "
            + "bit of which is in just one) times 1103515245 and 12345 more, then h and h moved 15 bits down "
            + "(zeros come in), likewise; the rest of h, moved 1 bit down likewise, by n (32 bits that wrap).");
        // Worked by hand for SEED 0 and which 0.
        long first = (28L * 1103515245L + 12345L) & 0xffffffffL;
        Check.due("28 times it", 833668133L, first);
        long second = first ^ (first >> 15);
        Check.due("mixed", 833660740L, second);
        Check.due("LOT 100 by hand", lot(100, 0, 0), goesLot(0, 0));
        for (int minute : new int[] {1, 7, 31, 200, 199}) {
            Check.due("LOT in minute " + minute, lot(100, 0, 8 * minute), goesLot(0, minute));
            Check.due("LOT of 9999 in minute " + minute, lot(100, 9999, 8 * minute), goesLot(9999, minute));
        }

        Sentence.of(0, "OVER: how many times a PIECE of one MAN lies on a PIECE of another one on some STREET "
            + "(each such two of PIECES).");
        ThreadTown town = Check.town("man a 0 0;man b 0 0;man c 0 0;");
        Check.steps(town, "a1b1a3b3a1c2");
        Check.due("a over b: 1 and 2", 3, town.over(0, 1));
        Check.due("b over a: 1 and 2", 3, town.over(1, 0));
        Check.due("c over a", 0, town.over(2, 0));
        Check.due("a over c", 0, town.over(0, 2));
        Check.steps(town, "c4c1");
        Check.due("c over a, through b", 3, town.over(2, 0));
        Check.due("c over b", 2, town.over(2, 1));
        Check.steps(town, "b2a32");
        Check.due("a over b on two STREETS", 6, town.over(0, 1));
        Check.due("a over c on two STREETS", 3, town.over(0, 2));
        Check.due("b over c", 2, town.over(1, 2));
    }

    /** LOT 100 of a SEED in a minute for MAN 0, exactly: by the only two laws that hold for it. */
    private static int goesLot(int seed, int minute) {
        int lot = 0;
        for (int i = 0; i < 3; i++) {
            int by = new int[] {1, 6, 36}[i];
            ThreadTown town = Check.town("town 2 2;seed " + seed + ";man a 0 0;goes a = lot / " + by + ";");
            town.run(minute);
            lot += by * town.man(0, 6);
        }
        return lot;
    }

    private static void men() {
        Sentence.of(6, "Of a MAN: what 0 x, 1 y, 2 PIECES that lie, 3 PIECES LEFT, 4: 1 if LOST, else 0, "
            + "5 how far from his DOOR (by x and by y), 6 what he would do now (0 .. 5, whether he can or not; "
            + "LOST: 0), 7 DYE.");
        ThreadTown town = Check.town("town 4 4;man a 0 0;man b 3 3;dye a 9;goes a = 10 - x;goes b = 5;long = 8;");
        row(town, 0, 0, 0, 0, 8, 0, 0, 4, 9);
        row(town, 1, 3, 3, 0, 8, 0, 0, 5, 0);
        Check.steps(town, "a2211142b43");
        row(town, 0, 2, 3, 7, 1, 0, 5, 2, 9);
        row(town, 1, 2, 2, 2, 6, 0, 2, 5, 0);
        Check.due("cut", 2, town.cut(1));
        row(town, 1, 2, 2, 0, 8, 1, 2, 0, 0);
        Check.steps(town, "a3");
        row(town, 0, 2, 2, 8, 0, 0, 4, 2, 9);
        town = Check.town("town 2 2;man a 0 0;goes a = 3;");
        Check.due("though he can't", 3, town.man(0, 6));

        Sentence.of(6, "NONE for others.");
        for (int what : new int[] {-1, 8, LEAST, MOST}) {
            Check.due("what " + what, -1, town.man(0, what));
        }
        for (int man : new int[] {-1, 1, 7, LEAST, MOST}) {
            for (int what = 0; what < 8; what++) {
                Check.due("MAN " + man + " what " + what, -1, town.man(man, what));
            }
        }
        Check.due("of no MEN", -1, new ThreadTown().man(0, 0));
    }

    private static void row(ThreadTown town, int man, int... due) {
        for (int i = 0; i < due.length; i++) {
            Check.due("man " + man + " what " + i, due[i], town.man(man, i));
        }
    }

    private static void pieces() {
        Sentence.of(7, "The i-th PIECE of a MAN from his DOOR on (0 and more): what 0 which STEP (1 .. 4), "
            + "1 how many PIECES lie under it on its STREET, 2 how many over it;");
        ThreadTown town = Check.town("man a 0 0;man b 0 0;");
        Check.steps(town, "a1234b13a1");
        int[][] due = {{0, 0, 1, 0, 3}, {0, 1, 2, 0, 0}, {0, 2, 3, 0, 0}, {0, 3, 4, 0, 0}, {0, 4, 1, 3, 0},
            {1, 0, 1, 1, 2}, {1, 1, 3, 2, 1}};
        for (int[] row : due) {
            for (int what = 0; what < 3; what++) {
                Check.due("piece " + row[0] + row[1] + " what " + what, row[2 + what],
                    town.piece(row[0], row[1], what));
            }
        }

        Sentence.of(7, "NONE: not so many, for others.");
        town = Check.town("man a 0 0;man b 0 0;long = 60;");
        for (int what = 0; what < 3; what++) {
            Check.due("none lies", -1, town.piece(0, 0, what));
        }
        for (int i = 0; i < 30; i++) {
            Check.steps(town, "a13");
        }
        Check.steps(town, "b2");
        Check.due("the sixtieth", 3, town.piece(0, 59, 0));
        Check.due("59 under it", 59, town.piece(0, 59, 1));
        Check.due("59 over it", 59, town.piece(0, 0, 2));
        for (int i : new int[] {60, 61, 120, -1, -60, LEAST, MOST}) {
            for (int what = 0; what < 3; what++) {
                Check.due("i " + i, -1, town.piece(0, i, what));
            }
        }
        for (int i : new int[] {-60, -1, 1, 60}) {
            Check.due("b's " + i, -1, town.piece(1, i, 0));
        }
        for (int what : new int[] {-1, 3, LEAST, MOST}) {
            Check.due("what " + what, -1, town.piece(0, 0, what));
        }
        for (int man : new int[] {-1, 2, 7, LEAST, MOST}) {
            Check.due("MAN " + man, -1, town.piece(man, 0, 0));
        }
        Check.due("wind", true, town.wind(0));
        Check.due("taken up", -1, town.piece(0, 59, 0));
        Check.due("cut", 59, town.cut(0));
        Check.due("cut off", -1, town.piece(0, 0, 0));
    }

    private static void steps() {
        Sentence.of(8, "STEP: true;");
        ThreadTown town = Check.town("town 2 2;man a 0 0;man b 1 1;man c 0 0;long = 2 - rank;");
        Check.due("step", true, town.step(0, 1));
        Check.due("his last one", true, town.step(0, 2));
        Check.due("another one's", true, town.step(1, 3));
        Check.due("cut", 0, town.cut(2));
        String seen = Check.seen(town);
        Sentence.of(8, "false, and nothing happens: he can't,");
        for (int way = 1; way <= 4; way++) {
            Check.due("none LEFT " + way, false, town.step(0, way));
            Check.due("none LEFT " + way, false, town.step(1, way));
            Check.due("LOST " + way, false, town.step(2, way));
        }
        Check.due("seen", seen, Check.seen(town));
        ThreadTown corner = Check.town("town 2 2;man a 0 0;");
        Check.due("out of the TOWN", false, corner.step(0, 3) || corner.step(0, 4));
        Check.due("nothing to undo", 0, corner.count(9));
        Sentence.of(8, "no such ones.");
        int[][] none = {{0, 0}, {0, 5}, {0, -1}, {0, LEAST}, {0, MOST}, {-1, 1}, {3, 1}, {7, 1}, {LEAST, 1}, {MOST, 1},
            {-1, 0}};
        for (int[] row : none) {
            Check.due("step " + row[0] + " " + row[1], false, town.step(row[0], row[1]));
            Check.due("one who could " + row[0] + " " + row[1], false, corner.step(row[0], row[1]));
        }
        Check.due("seen", seen, Check.seen(town));
        Check.due("the last thing done is the cut", true, town.undo());
        Check.due("none LOST", 0, town.count(5));
        Check.due("without MEN", false, new ThreadTown().step(0, 1));
    }

    /** a's thread lies under b's, c's does not lie, d is LOST. */
    private static ThreadTown under() {
        ThreadTown town = Check.town("man a 0 0;man b 0 0;man c 0 0;man d 0 0;");
        Check.steps(town, "a11b11d2");
        Check.due("cut", 1, town.cut(3));
        return town;
    }

    private static void windsAndHomes() {
        Sentence.of(9, "WIND: true;");
        ThreadTown town = under();
        Check.due("one", true, town.wind(1));
        Check.due("his first one", true, town.wind(1));
        Check.due("now a", true, town.wind(0));
        Sentence.of(9, "false, and nothing happens: none of his PIECES lies, one lies on it, LOST, no such one.");
        town = under();
        String seen = Check.seen(town);
        for (int man : new int[] {2, 0, 3, -1, 4, 7, LEAST, MOST}) {
            Check.due("wind " + man, false, town.wind(man));
        }
        Check.due("seen", seen, Check.seen(town));
        Check.due("undo the cut", true, town.undo());
        Check.due("d winds", true, town.wind(3));
        Check.due("not once more", false, town.wind(3));
        // Beside one of whose thread all sixty lie.
        town = Check.town("man a 0 0;man b 0 0;goes a = 1 + 2 * (minute - minute / 2 * 2);long = 60;");
        Check.due("run", 60, town.run(60));
        Check.due("none of b's lies", false, town.wind(1));
        Check.due("all of a's", 60, town.man(0, 2));
        Check.due("without MEN", false, new ThreadTown().wind(0));

        Sentence.of(10, "HOME: how many PIECES he winds up;");
        town = under();
        Check.due("two", 2, town.home(1));
        Check.steps(town, "b2");
        Check.due("a's", 2, town.home(0));
        Check.due("one", 1, town.home(1));
        town = StreetSentences.full();
        Check.due("one of sixty", 1, town.home(6));
        for (int man = 0; man < 6; man++) {
            Check.due("cut", 60, town.cut(man));
        }
        Check.due("the other 59", 59, town.home(6));
        town = Check.town("man a 0 0;goes a = 1 + 2 * (minute - minute / 2 * 2);long = 60;");
        Check.due("run", 60, town.run(60));
        Check.due("sixty", 60, town.home(0));
        Sentence.of(10, "NONE, and nothing happens: none, LOST, no such one.");
        town = under();
        seen = Check.seen(town);
        for (int man : new int[] {2, 0, 3, -1, 4, 7, LEAST, MOST}) {
            Check.due("home " + man, -1, town.home(man));
        }
        Check.due("seen", seen, Check.seen(town));
        Check.due("undo the cut", true, town.undo());
        Check.due("d's", 1, town.home(3));
        Check.due("none now", -1, town.home(3));
        Check.due("without MEN", -1, new ThreadTown().home(0));
    }

    private static void cutsAndRuns() {
        Sentence.of(11, "CUT: how many PIECES are gone;");
        ThreadTown town = Check.town("man a 0 0;man b 0 0;");
        Check.steps(town, "a111");
        Check.due("none lay", 0, town.cut(1));
        Check.due("LOST all the same", 1, town.man(1, 4));
        Check.due("a thing done", 4, town.count(9));
        Check.due("three", 3, town.cut(0));
        Sentence.of(11, "NONE, and nothing happens: LOST already, no such one.");
        town = Check.town("man a 0 0;man b 0 0;");
        Check.steps(town, "a111");
        Check.due("three", 3, town.cut(0));
        String seen = Check.seen(town);
        for (int man : new int[] {0, -1, 2, 7, LEAST, MOST}) {
            Check.due("cut " + man, -1, town.cut(man));
        }
        Check.due("seen", seen, Check.seen(town));
        Check.due("without MEN", -1, new ThreadTown().cut(0));

        Sentence.of(12, "n MINUTES (0 .. 200; 0 is no thing done) go by: which it is;");
        town = Check.town("man a 0 0;goes a = if minute < 199 then 0 else 1;");
        Check.due("none", 0, town.run(0));
        Check.due("no thing done", 0, town.count(9));
        Check.due("nothing to undo", false, town.undo());
        Check.due("one", 1, town.run(1));
        Check.due("a thing done", 1, town.count(9));
        Check.due("none again", 1, town.run(0));
        Check.due("no thing done", 1, town.count(9));
        Check.due("undo", true, town.undo());
        Check.due("two hundred", 200, town.run(200));
        Check.due("the last one, too", 1, town.man(0, 2));
        Check.due("more", 399, town.run(199));
        Check.due("without MEN", 200, new ThreadTown().run(200));
        Sentence.of(12, "NONE, and nothing happens: no such n.");
        seen = Check.seen(town);
        for (int n : new int[] {201, -1, -200, LEAST, MOST}) {
            Check.due("run " + n, -1, town.run(n));
        }
        Check.due("seen", seen, Check.seen(town));
        Check.due("without MEN", -1, new ThreadTown().run(201));
    }

    private static void undoing() {
        Sentence.of(13, "The last thing done (step, wind, home, cut, run) is undone: true;");
        ThreadTown town = Check.town("man a 0 0;man b 0 0;goes a = 2;");
        String[] seen = new String[6];
        seen[0] = Check.seen(town);
        Check.steps(town, "b1");
        seen[1] = Check.seen(town);
        Check.due("run", 3, town.run(3));
        seen[2] = Check.seen(town);
        Check.due("wind", true, town.wind(1));
        seen[3] = Check.seen(town);
        Check.due("home", 3, town.home(0));
        seen[4] = Check.seen(town);
        Check.due("cut", 0, town.cut(0));
        for (int i = 4; i >= 0; i--) {
            Check.due("undo", true, town.undo());
            Check.due("as it was", seen[i], Check.seen(town));
        }
        // Where a PIECE of another STEP came to lie since.
        town = Check.town("man a 0 0;man b 0 0;");
        Check.steps(town, "b2a1");
        String before = Check.seen(town);
        Check.due("wind", true, town.wind(0));
        Check.steps(town, "a2");
        Check.due("undo the step", true, town.undo());
        Check.due("undo the winding", true, town.undo());
        Check.due("his STEP as it was", before, Check.seen(town));
        Sentence.of(13, "false: there is none");
        town = Check.town("man a 0 0;man b 0 0;");
        Check.due("none done", false, town.undo());
        Check.due("what is refused is none", false, town.step(0, 3) || town.wind(0) || town.step(2, 1));
        Check.due("what is refused is none", -4, town.home(0) + town.cut(2) + town.run(201) + town.run(-1));
        Check.due("what is told, held or asked is none", 1, town.tell(0, 1, true) + town.orders());
        Check.due("hold", true, town.hold(0));
        Check.due("none done", false, town.undo());
        Check.steps(town, "a1");
        Check.due("one done", true, town.undo());
        Check.due("none any more", false, town.undo());
        Check.due("without MEN", false, new ThreadTown().undo());
        Sentence.of(13, "(the last 30 can be).");
        town = Check.town("town 2 2;man a 0 0;long = 60;");
        for (int i = 1; i <= 33; i++) {
            Check.due("step", true, town.step(0, i % 2 == 1 ? 1 : 3));
            Check.due("what can be undone", Math.min(i, 30), town.count(9));
        }
        for (int i = 1; i <= 30; i++) {
            Check.due("undo " + i, true, town.undo());
            Check.due("PIECES", 33 - i, town.count(4));
            Check.due("what can still be undone", 30 - i, town.count(9));
        }
        Check.due("the 31st", false, town.undo());
        Check.due("three stay", 3, town.count(4));
        for (int i = 0; i < 31; i++) {
            Check.due("step", true, town.step(0, i % 2 == 1 ? 1 : 3));
        }
        Check.due("thirty again", 30, town.count(9));
        Check.due("undo the last of 34", true, town.undo());
        Check.due("33 lie", 33, town.count(4));
    }

    private static void holding() {
        Sentence.of(42, "false: no such one.");
        ThreadTown town = Check.town("man a 0 0;man b 0 0;goes a = 2;");
        for (int slot : new int[] {-1, 3, LEAST, MOST}) {
            Check.due("hold " + slot, false, town.hold(slot));
        }
        Check.due("none holds", 0, town.count(11));
        Sentence.of(42, "All that goes on (not what is TOLD, nor the tape) is held in a SLOT (0 .. 2): true;");
        for (int slot = 0; slot < 3; slot++) {
            Check.steps(town, "b1");
            town.run(1);
            Check.due("hold " + slot, true, town.hold(slot));
            Check.due("they hold", slot + 1, town.count(11));
        }
        Check.due("cut", 3, town.cut(0));
        Check.due("tell", 0, town.tell(0, 1, true));
        Check.feed(town, "xyz");
        for (int slot = 2; slot >= 0; slot--) {
            Check.due("restore " + slot, true, town.restore(slot));
            int[] due = {2, 6, 6, slot + 1, 2 * slot + 2, 0, 0, 0, 3, 0, 1, 3};
            for (int i = 0; i < due.length; i++) {
                Check.due("count " + i, due[i], town.count(i));
            }
            where(town, 0, slot + 1, 0);
            where(town, 1, 0, slot + 1);
        }
        Check.due("TOLD stays", 1, town.forget());
        Check.due("the tape stays", 1, town.read());

        town = Check.town("man a 0 0;man b 0 0;");
        Check.steps(town, "b2a1");
        Check.due("hold", true, town.hold(0));
        Check.due("home", 1, town.home(0));
        Check.steps(town, "a22");
        Check.due("restore", true, town.restore(0));
        Check.due("his STEP", 1, town.piece(0, 0, 0));
        Check.due("where it lies", 0, town.street(0, 0, 1, 0));
        Check.due("what lies elsewhere", 1, town.street(0, 0, 2, -1));
        Check.due("he winds", true, town.wind(0));
        where(town, 0, 0, 0);
        Check.due("hold anew", true, town.hold(0));
        Check.due("one holds", 1, town.count(11));
        Check.steps(town, "a1");
        Check.due("restore", true, town.restore(0));
        Check.due("what it holds now", 1, town.count(4));
        Check.due("hold of no MEN", true, new ThreadTown().hold(2));
    }

    private static void restoring() {
        Sentence.of(43, "false, and nothing happens: no such one, nothing is held.");
        ThreadTown town = Check.town("man a 0 0;man b 0 0;goes a = 2;");
        Check.steps(town, "a1b1");
        Check.due("hold", true, town.hold(1));
        String seen = Check.seen(town);
        for (int slot : new int[] {0, 2, -1, 3, LEAST, MOST}) {
            Check.due("restore " + slot, false, town.restore(slot));
        }
        Check.due("seen", seen, Check.seen(town));
        Check.due("the things done can still be undone", true, town.undo());
        Check.due("nothing is held", false, new ThreadTown().restore(0));
        Sentence.of(43, "It goes on from what a SLOT holds (that stays there; nothing can be undone then): true;");
        for (int time = 0; time < 2; time++) {
            Check.due("restore", true, town.restore(1));
            Check.due("nothing can be undone", 0, town.count(9));
            Check.due("undo", false, town.undo());
            Check.due("PIECES", 2, town.count(4));
            Check.due("b lies above", 1, town.street(0, 0, 1, 1));
            Check.due("it goes on", 4, town.run(4));
            Check.due("wind", true, town.wind(1));
            Check.due("two things", 2, town.count(9));
        }
    }

    private static void counting() {
        Sentence.of(44, "0 MEN, 1 WIDE, 2 DEEP, 3 the minute, 4 PIECES that lie in all, 5 LOST ones, 6 PILLARS, "
            + "7 ERRANDS of all, 8 bytes on the tape, 9 things that can be undone, 10 TOLD ones, "
            + "11 SLOTS that hold something.");
        ThreadTown town = Check.town("town 7 5;man a 0 0;man b 0 0;man c 0 0;pillar 0 0;errand a 0 0;errand a 1 1;"
            + "errand c 2 2;errand c 0 0;");
        Check.steps(town, "c11b1a222");
        Check.due("cut", 1, town.cut(1));
        Check.due("cut", 3, town.cut(0));
        Check.due("run", 9, town.run(9));
        town.hold(0);
        town.hold(0);
        town.tell(0, 1, true);
        town.tell(0, 1, true);
        town.tell(1, 0, true);
        Check.feed(town, "abcde");
        int[] due = {3, 7, 5, 9, 2, 2, 1, 4, 5, 9, 3, 1};
        for (int i = 0; i < due.length; i++) {
            Check.due("count " + i, due[i], town.count(i));
        }
        town = StreetSentences.full();
        Check.due("420 PIECES", 420, town.count(4));
        Check.due("the last STEP of the last one", 3, town.piece(6, 59, 0));
        for (int man = 0; man < 7; man++) {
            Check.due("cut", 60, town.cut(man));
            Check.due("LOST", man + 1, town.count(5));
            Check.due("those that lie", 360 - 60 * man, town.count(4));
        }
        Sentence.of(44, "NONE for others.");
        for (int what : new int[] {-1, 12, LEAST, MOST}) {
            Check.due("count " + what, -1, town.count(what));
        }
    }

    static void run() {
        streets();
        windings();
        minutes();
        lawValues();
        lawVars();
        lots();
        men();
        pieces();
        steps();
        windsAndHomes();
        cutsAndRuns();
        undoing();
        holding();
        restoring();
        counting();
    }
}
