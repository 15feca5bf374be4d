import java.util.ArrayList;
import java.util.List;

/** Sentence by sentence: who MEETS whom, DUSK, what is TOLD, STARTS (promises 23, 26, 27, 39 to 41). */
final class LaterSentences {
    private static final int LEAST = Integer.MIN_VALUE;
    private static final int MOST = Integer.MAX_VALUE;
    private static final String SEVEN = "town 12 12;man a 0 0;man b 0 0;man c 0 0;man d 0 0;man e 0 0;man f 0 0;"
        + "man g 0 0;";
    /** Three MEN whose last PIECES lie on one STREET, a's lowest, c's uppermost. */
    private static final String KNOT = "a222b32c344";

    private LaterSentences() {
    }

    private static void meeting() {
        Sentence.of(0, "MEET of two MEN: behind how many MINUTES (0 .. 200), all as GOES tells, they are at one corner "
            + "for the first time.");
        ThreadTown town = Check.town("man a 0 0;man b 4 0;man c 0 0;man d 5 0;goes a = 2;goes b = 4;goes d = 4;");
        Check.due("at once", 0, town.meet(0, 2));
        Check.due("in the middle", 2, town.meet(0, 1));
        Check.due("passing by one another on a STREET", -2, town.meet(0, 3));
        Check.due("for the first time", 4, town.meet(1, 2));
        String late = "man a 0 0;man b 1 0;goes b = if minute < ";
        Check.due("199", 199, Check.town(late + "198 then 0 else 4;").meet(0, 1));
        Check.due("200", 200, Check.town(late + "199 then 0 else 4;").meet(0, 1));
        Check.due("201", -2, Check.town(late + "200 then 0 else 4;").meet(0, 1));
        town = Check.town(late + "201 then 0 else 4;");
        Check.due("run", 1, town.run(1));
        Check.due("202 of which one went by", -2, town.meet(0, 1));
        Check.due("run", 2, town.run(1));
        Check.due("202 of which two went by", 200, town.meet(0, 1));

        Sentence.of(23, "MEET;");
        town = Check.town("man a 0 0;man b 2 0;man c 5 5;goes a = 2;goes b = 4;long = 1;");
        Check.due("the other way round", 1, town.meet(1, 0));
        Check.due("cut", 0, town.cut(1));
        Check.due("his thread ends", -2, town.meet(0, 1));
        Sentence.of(23, "-2: not;");
        Check.due("one without GOES", -2, town.meet(0, 2));
        Check.due("two who stay", -2, Check.town("man a 0 0;man b 0 1;").meet(0, 1));
        Sentence.of(23, "NONE: no such ones, one and the same.");
        for (int man = 0; man < 3; man++) {
            Check.due("one and the same", -1, town.meet(man, man));
        }
        for (int man : new int[] {-1, 3, 7, LEAST, MOST}) {
            Check.due("meet 0 " + man, -1, town.meet(0, man));
            Check.due("meet " + man + " 0", -1, town.meet(man, 0));
            Check.due("meet " + man + " twice", -1, town.meet(man, man));
        }
        Check.due("without MEN", -1, new ThreadTown().meet(0, 1));
    }

    private static void dusk(ThreadTown town, int rule, int minutes, int wound, int home, int out) {
        int[] due = {minutes, wound, home, out};
        for (int what = 0; what < 4; what++) {
            Check.due("dusk by " + rule + " what " + what, due[what], town.dusk(rule, what));
        }
    }

    private static ThreadTown knot(String text) {
        ThreadTown town = Check.town("man a 0 0;man b 2 1;man c 4 1;" + text);
        Check.steps(town, KNOT);
        return town;
    }

    private static void rules() {
        Sentence.of(0, "DUSK by a RULE: minute by minute each MAN, one after the other, WINDS once if he can, those "
            + "first for whom that is greatest which, as the minute begins,");
        ThreadTown town = Check.town("man a 0 0;man b 5 5;");
        Check.steps(town, "a111b3");
        for (int rule = 0; rule < 5; rule++) {
            dusk(town, rule, 3, 4, 3, 0);
        }
        Sentence.of(0, "0 is nothing (all alike),");
        dusk(knot(""), 0, 5, 8, 7, 0);
        Sentence.of(0, "1 how many PIECES lie,");
        // a 3, b 2, c 3: a, c, b; then a 3, c 2, b 1: a's waits no longer for b's.
        dusk(knot(""), 1, 4, 8, 7, 0);
        // With fewer of a's it is b whom c's keeps: c 3, b 2, a 1 in the first minute.
        town = Check.town("man a 2 0;man b 2 1;man c 4 1;");
        Check.steps(town, "a2b32c344");
        dusk(town, 1, 3, 6, 7, 0);
        dusk(town, 0, 3, 6, 7, 0);
        Sentence.of(0, "2 how many are LEFT,");
        dusk(knot(""), 2, 4, 8, 7, 0);
        dusk(knot("long = 30 + 5 * rank;"), 2, 3, 8, 7, 0);
        dusk(knot("long = 30 - 5 * rank;"), 2, 5, 8, 7, 0);
        Sentence.of(0, "3 when his last PIECE was laid (none: ahead of all),");
        dusk(knot(""), 3, 3, 8, 7, 0);
        town = Check.town("man a 0 0;man b 0 0;man c 0 0;man d 0 0;");
        Check.steps(town, "c1b1a1");
        dusk(town, 3, 1, 3, 15, 0);
        dusk(town, 0, 1, 3, 15, 0);
        town = Check.town("man a 0 0;man b 0 0;man c 0 0;man d 0 0;");
        Check.steps(town, "a1b1c1");
        dusk(town, 3, 1, 3, 15, 0);
        dusk(town, 0, 3, 3, 15, 0);
    }

    /** By hand: in how many minutes a pile of one PIECE each, from the lowest on, is wound up by RULE 4. */
    private static int minutesByLot(int seed, int now, int... pile) {
        List<Integer> lying = new ArrayList<>();
        for (int man : pile) {
            lying.add(man);
        }
        int minutes = 0;
        while (!lying.isEmpty()) {
            List<Integer> order = new ArrayList<>(lying);
            int base = 2000 + 8 * (now + minutes);
            order.sort((a, b) -> WalkSentences.lot(1000, seed, base + b) - WalkSentences.lot(1000, seed, base + a));
            for (Integer man : order) {
                if (lying.get(lying.size() - 1).equals(man)) {
                    lying.remove(lying.size() - 1);
                }
            }
            minutes++;
        }
        return minutes;
    }

    private static void byLot() {
        Sentence.of(0, "4 LOT 1000 of the SEED and 2000 + 8 * (the minute that is now and how many went by since) + "
            + "his number;");
        int[] seen = new int[8];
        for (int seed = 0; seed < 12; seed++) {
            for (int now : new int[] {0, 1, 2, 200}) {
                ThreadTown town = Check.town("seed " + seed + ";" + SEVEN);
                Check.steps(town, "a1b1c1d1e1f1g1");
                Check.due("run", now, town.run(now));
                int minutes = minutesByLot(seed, now, 0, 1, 2, 3, 4, 5, 6);
                seen[minutes]++;
                dusk(town, 4, minutes, 7, 127, 0);
            }
        }
        int kinds = 0;
        for (int times : seen) {
            kinds += times > 0 ? 1 : 0;
        }
        Check.due("more than two answers", true, kinds > 2);
    }

    private static void ends() {
        Sentence.of(0, "of alike ones the first: till a minute in which nobody WINDS (that one is not counted).");
        ThreadTown town = Check.town("man a 0 0;man b 0 0;man c 0 0;");
        Check.steps(town, "b1a1c2");
        for (int rule = 0; rule < 3; rule++) {
            dusk(town, rule, 1, 3, 7, 0);
        }
        town = Check.town("man a 0 0;man b 0 0;man c 0 0;");
        Check.steps(town, "a1b1a3c22");
        dusk(town, 0, 2, 5, 7, 0);
        Check.steps(town, "b3a1");
        dusk(town, 0, 3, 7, 7, 0);
        town = Check.town("man a 0 0;man b 0 1;");
        Check.steps(town, "a12b23");
        dusk(town, 0, 4, 4, 3, 0);
        dusk(town, 3, 3, 4, 3, 0);
        town = StreetSentences.full();
        // One in each minute but where a's and then g's comes up; 420 where each waits for all others.
        dusk(town, 0, 420 - 59, 420, 127, 0);
        dusk(town, 2, 420, 420, 127, 0);
        dusk(town, 3, 60, 420, 127, 0);
        Check.due("all of them", 3, town.bestDusk());

        Sentence.of(26, "DUSK: what 0 how many minutes, 1 PIECES wound up,");
        for (int rule = 0; rule < 5; rule++) {
            dusk(new ThreadTown(), rule, 0, 0, 0, 0);
        }
        Sentence.of(26, "2 the MEN (bits) who are not LOST and of whose threads no PIECE lies then, 3 the MEN (bits) "
            + "of whom some still lies;");
        town = Check.town(SEVEN);
        dusk(town, 0, 0, 0, 127, 0);
        Check.steps(town, "a1b11c2d2");
        Check.due("cut", 1, town.cut(2));
        Check.due("cut", 0, town.cut(5));
        // The PIECE laid last can always be wound up: so none ever stays.
        dusk(town, 0, 3, 4, 127 - 4 - 32, 0);
        Check.due("cut", 1, town.cut(0));
        dusk(town, 0, 2, 3, 126 - 4 - 32, 0);
        Sentence.of(26, "NONE: no such ones (RULES 0 .. 4).");
        for (int other : new int[] {-1, 5, LEAST, MOST}) {
            for (int i = 0; i < 4; i++) {
                Check.due("dusk by " + other + " what " + i, -1, town.dusk(other, i));
            }
        }
        for (int other : new int[] {-1, 4, LEAST, MOST}) {
            for (int rule = 0; rule < 5; rule++) {
                Check.due("dusk by " + rule + " what " + other, -1, town.dusk(rule, other));
            }
        }
        Check.due("without MEN", -1, new ThreadTown().dusk(5, 0));
    }

    private static void bestRule() {
        Sentence.of(0, "BEST RULE: by which most PIECES are wound up, of alike ones in the fewest minutes, then the "
            + "first.");
        Check.due("none lies", 0, Check.town(SEVEN).bestDusk());
        Check.due("three minutes", 3, knot("").bestDusk());
        Check.due("three minutes by 2 and 3", 2, knot("long = 30 + 5 * rank;").bestDusk());
        ThreadTown town = Check.town("man a 0 0;man b 0 0;");
        Check.steps(town, "a1b1a3");
        Check.due("two minutes by all", 0, town.bestDusk());
        town = Check.town("man a 0 0;man b 0 0;man c 0 0;");
        Check.steps(town, "c1a1b1c3");
        Check.due("two minutes by 1 and 3", 1, town.bestDusk());
        Sentence.of(27, "BEST RULE.");
        Check.due("without MEN", 0, new ThreadTown().bestDusk());
        int[] found = new int[5];
        for (int seed = 0; seed < 40; seed++) {
            int fewest = minutesByLot(seed, 0, 0, 2, 1);
            town = Check.town("seed " + seed + ";man a 0 0;man b 0 0;man c 0 0;");
            Check.steps(town, "a1c1b1");
            // By RULE 3 one minute, as good as any: RULE 4 is never ahead of it.
            Check.due("by seed " + seed, 3, town.bestDusk());
            Check.due("its minutes", fewest, town.dusk(4, 0));
            found[fewest]++;
        }
        Check.due("one minute by RULE 4, too", true, found[1] > 0);
    }

    private static void telling() {
        Sentence.of(0, "TOLD: that a MAN's thread lies OVER another one's (or does not),");
        ThreadTown town = Check.town("man a 0 0;man b 1 0;goes a = 2;goes b = 4;");
        Check.due("tell", 0, town.tell(1, 0, true));
        Check.due("b lies over a", 3, town.starts(1, 3, 1));
        Check.due("tell", 1, town.tell(1, 0, false));
        Check.due("both can't be", 0, town.starts(1, 3, 2));
        Check.due("forget", 2, town.forget());
        Check.due("tell", 0, town.tell(1, 0, false));
        Check.due("b does not lie over a", 1, town.starts(1, 3, 1));
        Check.due("forget", 1, town.forget());
        Sentence.of(0, "12 at most, numbered from 0 on;");
        for (int i = 0; i < 11; i++) {
            Check.due("tell " + i, i, town.tell(1, 0, true));
        }
        Check.due("the twelfth", 11, town.tell(0, 1, true));
        Check.due("the 13th", -1, town.tell(0, 1, true));
        Check.due("TOLD", 12, town.count(10));
        Sentence.of(0, "KNOWN by k: the first k.");
        Check.due("nothing KNOWN", 4, town.starts(1, 3, 0));
        for (int k = 1; k <= 11; k++) {
            Check.due("b over a, KNOWN by " + k, 3, town.starts(1, 3, k));
        }
        Check.due("a over b, too, by the twelfth", 0, town.starts(1, 3, 12));
        Check.due("no 13th", -1, town.starts(1, 3, 13));

        Sentence.of(39, "It is TOLD: its number;");
        Check.due("forget", 12, town.forget());
        Check.due("tell", 0, town.tell(0, 1, true));
        Check.due("the same once more", 1, town.tell(0, 1, true));
        Sentence.of(39, "NONE, and nothing happens: 12 are there,");
        ThreadTown full = Check.town("man a 0 0;man b 0 0;");
        for (int i = 0; i < 12; i++) {
            Check.due("tell", i, full.tell(0, 1, false));
        }
        String seen = Check.seen(full);
        Check.due("one more", -1, full.tell(0, 1, true));
        Check.due("seen", seen, Check.seen(full));
        Check.due("what was TOLD is KNOWN", 1, full.starts(0, 0, 12));
        Sentence.of(39, "no such ones, one and the same.");
        seen = Check.seen(town);
        for (int man : new int[] {-1, 2, 7, LEAST, MOST}) {
            Check.due("tell 0 " + man, -1, town.tell(0, man, true));
            Check.due("tell " + man + " 0", -1, town.tell(man, 0, false));
            Check.due("tell " + man + " twice", -1, town.tell(man, man, true));
        }
        Check.due("one and the same", -1, town.tell(0, 0, true));
        Check.due("one and the same", -1, town.tell(1, 1, false));
        Check.due("seen", seen, Check.seen(town));
        Check.due("without MEN", -1, new ThreadTown().tell(0, 1, true));
        Sentence.of(40, "All that was TOLD is forgotten: how many there were.");
        Check.due("two", 2, town.forget());
        Check.due("none", 0, town.forget());
        Check.due("none TOLD", 0, town.count(10));
        Check.due("nothing KNOWN", -1, town.starts(1, 3, 1));
        Check.due("a new one", 0, town.tell(1, 0, true));
        Check.due("KNOWN by it alone", 3, town.starts(1, 3, 1));
        Check.due("twelve", 12, full.forget());
        Check.due("without MEN", 0, new ThreadTown().forget());
    }

    private static void starting() {
        Sentence.of(0, "STARTS: for each MAN one of the minutes 0 .. m (0 .. 3):");
        // a lies over b where b starts earlier.
        ThreadTown town = Check.town("man a 0 0;man b 1 0;goes a = if minute < 1 then 2 else 0;"
            + "goes b = if minute < 1 then 4 else 0;");
        town.tell(0, 1, true);
        int[] rows = {0, 1, 3, 6};
        for (int m = 0; m < 4; m++) {
            Check.due("a over b, 0 .. " + m, rows[m], town.starts(m, 40, 1));
        }
        Check.due("no 0 .. 4", -1, town.starts(4, 40, 1));
        threeStart();
        Sentence.of(0, "n MINUTES (0 .. 40) go by from the text's begin, MAN by MAN as above,");
        int[] byMinutes = {0, 0, 1, 3, 6, 6};
        for (int n = 0; n < 6; n++) {
            Check.due("in " + n + " minutes", byMinutes[n], town.starts(3, n, 1));
        }
        Check.due("no 41", -1, town.starts(3, 41, 1));
        Check.steps(town, "a2");
        Check.due("cut", 0, town.cut(1));
        Check.due("run", 9, town.run(9));
        Check.due("whatever was done", 6, town.starts(3, 40, 1));
        town = Check.town("man a 0 0;man b 0 0;goes a = 1;goes b = if minute < 39 then 0 else 1;long = 1;");
        town.tell(1, 0, true);
        Check.due("b goes in the fortieth minute", 4, town.starts(3, 40, 1));
        Check.due("not in one less", 0, town.starts(3, 39, 1));
        town = Check.town("man a 0 0;man b 0 0;goes a = 1;goes b = 1;");
        town.tell(1, 0, true);
        Check.due("a first, then b", 1, town.starts(0, 1, 1));

        Sentence.of(0, "but each does nothing ahead of the minute of his START, and from then on his minute (for LOT, "
            + "too) is less by that:");
        // a goes in the minute 36 behind his START, b in his minute 39: by no START but 0 in forty minutes.
        town = Check.town("man a 0 0;man b 0 0;goes a = if minute < 36 then 0 else if minute < 37 then 1 else 0;"
            + "goes b = if minute < 39 then 0 else 1;");
        town.tell(1, 0, true);
        Check.due("b over a, who starts in any minute", 4, town.starts(3, 40, 1));
        for (int seed : new int[] {3, 4, 5, 9999}) {
            town = Check.town("seed " + seed + ";man a 0 0;man b 0 0;goes a = if lot < 10 then 1 else 0;"
                + "goes b = if lot < 10 then 1 else 0;long = 1;");
            town.tell(0, 1, true);
            Check.due("by LOTS of SEED " + seed, byLots(seed), town.starts(3, 40, 1));
        }
        Check.due("some rows, not all", true, byLots(3) > 0 && byLots(3) < 16);
        Check.due("others", true, byLots(4) != byLots(3) || byLots(5) != byLots(3));

        Sentence.of(0, "so that all that is KNOWN (OVER once or more) is so then:");
        // b's two PIECES over a's one, or none.
        town = Check.town("man a 0 0;man b 0 0;goes a = if minute < 1 then 1 else 0;goes b = if minute < 1 then 1 else "
            + "if minute < 2 then 3 else 0;");
        town.tell(1, 0, true);
        town.tell(0, 1, false);
        Check.due("once or twice", 13, town.starts(3, 40, 1));
        Check.due("and not a over b", 10, town.starts(3, 40, 2));
        town.tell(0, 1, true);
        Check.due("not both", 0, town.starts(3, 40, 3));
        town.forget();
        town.tell(0, 1, true);
        Check.due("a over one or two", 6, town.starts(3, 40, 1));
        town.tell(1, 0, true);
        Check.due("a over one, below the other one", 3, town.starts(3, 40, 2));
        town.forget();
        town.tell(1, 0, false);
        Check.due("in no minute none", 16, town.starts(3, 0, 1));

        Sentence.of(0, "how many rows of STARTS (-2 if there are more than 1000 rows to go through).");
        StringBuilder text = new StringBuilder();
        for (int men = 0; men <= 7; men++) {
            town = Check.town(text.toString());
            for (int m = 0; m < 4; m++) {
                long all = Math.round(Math.pow(m + 1, men));
                Check.due(men + " MEN to " + m, all > 1000 ? -2 : all, town.starts(m, 40, 0));
            }
            text.append("man ").append((char) ('a' + men)).append(" 0 0;");
        }
    }

    /** b lies over a where he does not start earlier, whenever c starts. */
    private static void threeStart() {
        ThreadTown town = Check.town("man a 0 0;man b 0 0;man c 0 0;goes a = if minute < 1 then 1 else 0;"
            + "goes b = if minute < 1 then 1 else 0;goes c = 2;");
        town.tell(1, 0, true);
        int[] rows = {1, 6, 18, 40};
        for (int m = 0; m < 4; m++) {
            Check.due("b over a, 0 .. " + m, rows[m], town.starts(m, 40, 1));
            Check.due("in one minute, 0 .. " + m, m + 1, town.starts(m, 1, 1));
        }
    }

    /** How many rows of STARTS 0 .. 3 of two MEN let MAN 0 lie over MAN 1, each of whom steps once. */
    private static int byLots(int seed) {
        int rows = 0;
        for (int a = 0; a < 4; a++) {
            for (int b = 0; b < 4; b++) {
                int stepOfA = firstBelow(seed, 0, 40 - a) + a;
                int stepOfB = firstBelow(seed, 1, 40 - b) + b;
                rows += stepOfA < 40 && stepOfB < stepOfA ? 1 : 0;
            }
        }
        return rows;
    }

    private static int firstBelow(int seed, int man, int minutes) {
        for (int minute = 0; minute < minutes; minute++) {
            if (WalkSentences.lot(100, seed, 8 * minute + man) < 10) {
                return minute;
            }
        }
        return 40;
    }

    private static void howManyStarts() {
        Sentence.of(41, "STARTS, as KNOWN by k: how many rows;");
        Check.due("without MEN", 1, new ThreadTown().starts(0, 0, 0));
        Check.due("without MEN", 1, new ThreadTown().starts(3, 40, 0));
        ThreadTown town = Check.town(SEVEN);
        town.tell(0, 6, true);
        town.tell(6, 0, false);
        Check.due("nothing KNOWN", 128, town.starts(1, 40, 0));
        Check.due("one", 0, town.starts(1, 40, 1));
        Check.due("one row", 1, town.starts(0, 40, 0));
        Sentence.of(41, "-2: too many to go through;");
        Check.due("2187", -2, town.starts(2, 0, 0));
        Check.due("16384", -2, town.starts(3, 40, 2));
        Sentence.of(41, "NONE: no such ones.");
        int[][] none = {{-1, 1, 0}, {4, 1, 0}, {LEAST, 1, 0}, {MOST, 1, 0}, {1, -1, 0}, {1, 41, 0}, {1, LEAST, 0},
            {1, MOST, 0}, {1, 1, -1}, {1, 1, 3}, {1, 1, 12}, {1, 1, LEAST}, {1, 1, MOST}};
        for (int[] row : none) {
            Check.due("starts " + row[0] + " " + row[1] + " " + row[2], -1, town.starts(row[0], row[1], row[2]));
        }
        Check.due("without MEN", -1, new ThreadTown().starts(0, 0, 1));
    }

    static void run() {
        meeting();
        rules();
        byLot();
        ends();
        bestRule();
        telling();
        starting();
        howManyStarts();
    }
}
