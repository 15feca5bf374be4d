/** Sentence by sentence: who is OVER whom and what follows from it (promises 14 to 18, 24 and 38). */
final class KnotSentences {
    private static final int LEAST = Integer.MIN_VALUE;
    private static final int MOST = Integer.MAX_VALUE;
    private static final String THREE = "town 4 4;man a 0 0;man b 0 0;man c 0 0;";
    private static final String SEVEN = "town 12 12;man a 0 0;man b 0 0;man c 0 0;man d 0 0;man e 0 0;man f 0 0;"
        + "man g 0 0;";

    private KnotSentences() {
    }

    /** The first ORDER, to its end; none: orders that can't be. */
    private static void orders(ThreadTown town, int how, int... first) {
        Check.due("orders", how, town.orders());
        for (int i = 0; i < first.length; i++) {
            Check.due("orderAt " + i, first[i], town.orderAt(i));
        }
        Check.due("orderAt behind it", how == 0 ? -2 : -1, town.orderAt(first.length));
    }

    private static void cuts(ThreadTown town, int men, int pieces, int who) {
        Check.due("cuts 0", men, town.cuts(0));
        Check.due("cuts 1", pieces, town.cuts(1));
        Check.due("cuts 2", who, town.cuts(2));
    }

    private static int ask(ThreadTown town) {
        int sum = 0;
        for (int i = 0; i < 3; i++) {
            sum += town.over(0, i) + town.waits(i) + town.orderAt(i) + town.cuts(i) + town.way(i) + town.wayAt(0, i)
                + town.lives(i) + town.turns(i, 0) + town.meet(0, i) + town.most(i) + town.street(0, 0, 1, i)
                + town.shows(0, 0, i) + town.shown(i) + town.uppermost(i) + town.knows(i) + town.links(i, 0)
                + town.crowd(i) + town.plain(i) + town.nearest(i, 0) + town.starts(2, 9, i);
        }
        for (int rule = 0; rule < 5; rule++) {
            sum += town.dusk(rule, 0) + town.dusk(rule, 3);
        }
        return sum + town.orders() + town.bestDusk() + town.rounds() + town.thieves() + town.unfair();
    }

    private static void nothingHappens() {
        Sentence.of(0, "What would be (nothing happens).");
        String text = "town 4 4;seed 5;man a 0 0;man b 1 1;man c 0 1;goes a = lot;goes b = lot;goes c = 1 + lot / 25;"
            + "errand a 2 2;errand b 3 0;pillar 0 0;long = 9;";
        ThreadTown asked = Check.town(text);
        ThreadTown other = Check.town(text);
        for (ThreadTown town : new ThreadTown[] {asked, other}) {
            Check.steps(town, "a12b3");
            town.tell(0, 1, true);
            town.tell(1, 2, false);
            town.run(4);
            town.hold(1);
        }
        String seen = Check.seen(other);
        Check.due("asked twice, the same", ask(asked), ask(asked));
        Check.due("seen", seen, Check.seen(asked));
        Check.due("run", other.run(30), asked.run(30));
        Check.due("seen later", Check.seen(other), Check.seen(asked));
        Check.due("undo", true, asked.undo());
        Check.due("seen again", seen, Check.seen(asked));
    }

    private static void overAndWaits() {
        Sentence.of(14, "OVER;");
        ThreadTown town = Check.town(THREE);
        Check.due("none lies", 0, town.over(0, 1));
        Check.steps(town, "a1b1c1b3");
        int[][] due = {{0, 1, 0}, {0, 2, 0}, {1, 0, 2}, {1, 2, 1}, {2, 0, 1}, {2, 1, 1}};
        for (int[] row : due) {
            Check.due("over " + row[0] + row[1], row[2], town.over(row[0], row[1]));
        }
        Sentence.of(14, "NONE: no such ones, one and the same.");
        for (int man = 0; man < 3; man++) {
            Check.due("one and the same", -1, town.over(man, man));
            for (int other : new int[] {-1, 3, 7, LEAST, MOST}) {
                Check.due("over " + man + " " + other, -1, town.over(man, other));
                Check.due("over " + other + " " + man, -1, town.over(other, man));
                Check.due("over " + other + " twice", -1, town.over(other, other));
            }
        }

        Sentence.of(0, "WAITS: one MAN for another one if that one is OVER him.");
        int[] waits = {6, 4, 2};
        for (int man = 0; man < 3; man++) {
            Check.due("waits " + man, waits[man], town.waits(man));
        }
        Check.due("none for himself", 0, lone("a131").waits(0));
        Sentence.of(15, "For whom a MAN WAITS (bits);");
        town = Check.town(SEVEN);
        Check.due("none lies", 0, town.waits(0));
        Check.steps(town, "a1b1c1d1e1f1g1");
        for (int man = 0; man < 7; man++) {
            Check.due("waits " + man, 127 & ~((2 << man) - 1), town.waits(man));
        }
        Check.due("cut", 1, town.cut(6));
        Check.due("not for a LOST one", 62, town.waits(0));
        Check.due("LOST", 0, town.waits(6));
        Sentence.of(15, "NONE: no such one.");
        for (int man : new int[] {-1, 7, LEAST, MOST}) {
            Check.due("waits " + man, -1, town.waits(man));
        }
        Check.due("of three", -1, Check.town(THREE).waits(3));
        Check.due("of none", -1, new ThreadTown().waits(0));
    }

    private static ThreadTown lone(String moves) {
        ThreadTown town = Check.town("town 4 4;man a 0 0;");
        Check.steps(town, moves);
        return town;
    }

    private static void howManyOrders() {
        Sentence.of(0, "ORDERS: all MEN whose threads lie go HOME one by one, each all the way, none waiting for one "
            + "who has not yet: how many ORDERS;");
        ThreadTown town = Check.town(SEVEN);
        Check.steps(town, "a1b1c1d1e1f1g1");
        orders(town, 1, 6, 5, 4, 3, 2, 1, 0);
        town = Check.town("town 8 2;man a 0 0;man b 1 0;man c 2 0;man d 3 0;man e 4 0;man f 5 0;man g 6 0;");
        Check.steps(town, "a1b1c1d1e1f1g1");
        orders(town, 5040, 0, 1, 2, 3, 4, 5, 6);
        Check.steps(town, "g31");
        orders(town, 5040, 0, 1, 2, 3, 4, 5, 6);
        Check.due("cut", 1, town.cut(3));
        orders(town, 720, 0, 1, 2, 4, 5, 6);
        Check.steps(town, "b43");
        // b's lies on a's: a has to wait.
        orders(town, 360, 1, 0, 2, 4, 5, 6);
        // He can wind his last PIECE, but not all the way.
        town = Check.town(THREE);
        Check.steps(town, "a1b1a1b3b1a3");
        Check.due("a winds", true, town.wind(0));
        Check.due("it is undone", true, town.undo());
        orders(town, 1, 1, 0);
        Check.steps(town, "a3");
        orders(town, 0);
        Sentence.of(0, "the first one (by numbers, the first place first).");
        town = Check.town("town 4 4;man a 0 0;man b 0 0;man c 1 0;man d 1 0;man e 3 3;");
        Check.steps(town, "a1b1c1d1e3");
        // b ahead of a, d ahead of c.
        orders(town, 30, 1, 0, 3, 2, 4);

        Sentence.of(16, "ORDERS: how many (1 if no thread lies).");
        Check.due("without MEN", 1, new ThreadTown().orders());
        town = Check.town(THREE);
        Check.due("none lies", 1, town.orders());
        Check.steps(town, "a1b2");
        Check.due("two", 2, town.orders());
        Check.due("cut", 1, town.cut(0));
        Check.due("one lies", 1, town.orders());
        Check.due("cut", 1, town.cut(1));
        Check.due("none lies any more", 1, town.orders());
    }

    private static void firstOrder() {
        Sentence.of(17, "The i-th MAN of the first one;");
        ThreadTown town = Check.town(THREE);
        Check.steps(town, "a1c1b2");
        orders(town, 3, 1, 2, 0);
        Sentence.of(17, "-2: there is none;");
        town = Check.town(THREE);
        Check.steps(town, "a1b1a3");
        for (int i : new int[] {0, 1, 2, 7, MOST}) {
            Check.due("orderAt " + i, -2, town.orderAt(i));
        }
        Sentence.of(17, "NONE (looked at first): i below 0;");
        for (int i : new int[] {-1, -2, LEAST}) {
            Check.due("orderAt of none " + i, -1, town.orderAt(i));
            Check.due("orderAt " + i, -1, lone("a1").orderAt(i));
            Check.due("orderAt without MEN " + i, -1, new ThreadTown().orderAt(i));
        }
        Sentence.of(17, "NONE: not so many.");
        Check.due("none lies", -1, Check.town(THREE).orderAt(0));
        Check.due("without MEN", -1, new ThreadTown().orderAt(0));
        town = Check.town(THREE);
        Check.steps(town, "c1a2");
        Check.due("the second", 2, town.orderAt(1));
        for (int i : new int[] {2, 3, 7, MOST}) {
            Check.due("orderAt " + i, -1, town.orderAt(i));
        }
        town = Check.town(SEVEN);
        Check.steps(town, "a1b1c1d1e1f1g1");
        Check.due("the seventh", 0, town.orderAt(6));
        Check.due("the eighth", -1, town.orderAt(7));
    }

    private static void fewestCuts() {
        Sentence.of(0, "CUTS: the fewest MEN whose threads are CUT so that there is an ORDER for the others;");
        ThreadTown town = Check.town(THREE);
        cuts(town, 0, 0, 0);
        Check.steps(town, "a1b1c1");
        cuts(town, 0, 0, 0);
        // b with a, and b with c: he alone, however many of his lie.
        town = Check.town(THREE);
        Check.steps(town, "a1b131a3c2b3242c4");
        Check.due("no ORDER", 0, town.orders());
        cuts(town, 1, 7, 2);
        Sentence.of(0, "of alike ones the fewest PIECES,");
        // a with b: two PIECES and one, then two and three, then four and three.
        town = Check.town(THREE);
        Check.steps(town, "a1b1a3");
        cuts(town, 1, 1, 2);
        Check.steps(town, "b11");
        cuts(town, 1, 2, 1);
        Check.steps(town, "a22");
        cuts(town, 1, 3, 2);
        Sentence.of(0, "then the least bits.");
        town = Check.town(THREE);
        Check.steps(town, "c1a1c3a1");
        cuts(town, 1, 2, 1);
        // a with b and c with d: of the four choices.
        town = Check.town("town 4 4;man a 0 0;man b 0 0;man c 2 0;man d 2 0;");
        Check.steps(town, "a1b1a3c1d1c3b2d2");
        cuts(town, 2, 4, 5);
        Check.steps(town, "a2");
        cuts(town, 2, 4, 6);
        // All seven in one knot: six of them.
        town = Check.town(SEVEN);
        Check.steps(town, "a1b1c1d1e1f1g1a3b3c3d3e3f3g3");
        cuts(town, 6, 12, 63);
        Check.due("no ORDER", 0, town.orders());
        Check.steps(town, "a1");
        cuts(town, 6, 12, 126);
        Sentence.of(18, "CUTS: what 0 how many MEN, 1 PIECES, 2 who (bits);");
        town = Check.town(THREE);
        Check.steps(town, "a1c1b2");
        cuts(town, 0, 0, 0);
        Check.steps(town, "a31");
        cuts(town, 1, 1, 4);
        Check.steps(town, "c11");
        cuts(town, 1, 3, 1);
        Sentence.of(18, "NONE for others.");
        for (int what : new int[] {-1, 3, LEAST, MOST}) {
            Check.due("cuts " + what, -1, town.cuts(what));
            Check.due("cuts without MEN " + what, -1, new ThreadTown().cuts(what));
        }
    }

    private static void mostOver() {
        Sentence.of(0, "MOST OVER: who is OVER most PIECES of others,");
        ThreadTown town = Check.town(THREE);
        Check.due("all alike", 0, town.most(0));
        Check.steps(town, "a131313b2c2");
        Check.due("others' PIECES alone", 2, town.most(0));
        Check.steps(town, "b2c2");
        Check.due("who", 2, town.most(0));
        Check.steps(town, "a2b4");
        // a is over b and c (2), b over c (1), c over b twice (2).
        Sentence.of(0, "of alike ones the first.");
        Check.due("a and c", 0, town.most(0));
        Check.due("how many", 2, town.most(1));
        Sentence.of(24, "MOST OVER: what 0 who, 1 how many;");
        town = Check.town(SEVEN);
        Check.due("who", 0, town.most(0));
        Check.due("none", 0, town.most(1));
        Check.steps(town, "a1b1c1d1e1f1g1");
        Check.due("who", 6, town.most(0));
        Check.due("six", 6, town.most(1));
        Sentence.of(24, "-2: no MEN;");
        Check.due("who", -2, new ThreadTown().most(0));
        Check.due("how many", -2, new ThreadTown().most(1));
        Sentence.of(24, "NONE for others.");
        for (int what : new int[] {-1, 2, LEAST, MOST}) {
            Check.due("most " + what, -1, town.most(what));
        }

        Sentence.of(38, "By how many PIECES he who is OVER most is OVER more of others than he who is OVER fewest "
            + "(0 without MEN).");
        Check.due("without MEN", 0, new ThreadTown().unfair());
        Check.due("alone", 0, lone("a1313").unfair());
        Check.due("six less none", 6, town.unfair());
        town = Check.town(THREE);
        Check.due("none lies", 0, town.unfair());
        Check.steps(town, "a1b1a3");
        Check.due("one less none of c", 1, town.unfair());
        town = Check.town("man a 0 0;man b 0 0;");
        Check.steps(town, "a1b1a3");
        Check.due("one less one", 0, town.unfair());
        Check.steps(town, "a1");
        Check.due("two less one", 1, town.unfair());
    }

    static void run() {
        nothingHappens();
        overAndWaits();
        howManyOrders();
        firstOrder();
        fewestCuts();
        mostOver();
    }
}
