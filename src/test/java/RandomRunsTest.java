/** Runs of calls drawn from fixed numbers, each answer held against the plain one of NaiveTown. */
public final class RandomRunsTest {
    private static final String[] WORDS = {
        "town", "man", "goes", "long", "errand", "pillar", "dye", "seed", "if", "then", "else", "x", "y",
        "minute", "left", "lot", "rank", ";", "=", "+", "-", "*", "/", "<", "(", ")", "a", "b", "zed", "0", "1",
        "12", "9999", "12345", "abcdefghi", ".", "A", "\u00e9", "\0"
    };

    private long state;

    private RandomRunsTest(long seed) {
        state = seed * 7919 + 17;
    }

    private int draw(int n) {
        state = state * 6364136223846793005L + 1442695040888963407L;
        return (int) ((state >>> 33) % n);
    }

    private String unit(int depth) {
        String[] vars = {"x", "y", "minute", "left", "lot", "rank"};
        switch (draw(depth < 3 ? 8 : 6)) {
            case 0:
            case 1:
            case 2:
                return vars[draw(6)];
            case 6:
            case 7:
                return "(" + e(depth + 1) + ")";
            default:
                return "" + draw(draw(5) == 0 ? 10000 : 7);
        }
    }

    private String e(int depth) {
        StringBuilder all = new StringBuilder(unit(depth));
        while (draw(3) == 0) {
            all.append(" +-*/".charAt(1 + draw(4)));
            all.append(draw(2) == 0 ? " " : "").append(unit(depth));
        }
        return all.toString();
    }

    private String law(String plain) {
        StringBuilder all = new StringBuilder(" = ");
        for (int i = draw(4); i > 0; i--) {
            all.append("if ").append(e(0)).append(" < ").append(e(0)).append(" then ");
            all.append(draw(2) == 0 ? plain : e(0)).append(" else ");
        }
        return all.append(draw(3) == 0 ? e(0) : plain).append(";").toString();
    }

    private String text() {
        StringBuilder all = new StringBuilder();
        int wide = draw(4) == 0 ? 6 : 2 + draw(draw(2) == 0 ? 3 : 11);
        int deep = draw(4) == 0 ? 6 : 2 + draw(draw(2) == 0 ? 3 : 11);
        all.append("town ").append(wide).append(' ').append(deep).append(";");
        int men = draw(8);
        String name = "abcdefg";
        for (int i = 0; i < men; i++) {
            all.append(draw(2) == 0 ? "\n" : "").append("man ").append(name.charAt(i)).append(' ');
            all.append(draw(wide)).append(draw(2) == 0 ? " " : "\t").append(draw(deep)).append(";");
        }
        int times = men == 0 ? 0 : draw(3);
        for (int i = 0; i < times * men; i++) {
            all.append("errand ").append(name.charAt(draw(men))).append(' ').append(draw(wide)).append(' ');
            all.append(draw(deep)).append(";");
        }
        for (int i = 0; i < men; i++) {
            if (draw(8) != 0) {
                String[] plain = {"lot", "lot / 10", "lot * lot", "minute + rank", "1 + lot / 25", "left", "5",
                    "1 + minute / 3", "2 + 2 * (minute / 5)", "x + y + minute", "lot - 40"};
                all.append("goes ").append(name.charAt(i)).append(law(plain[draw(plain.length)]));
            }
            if (draw(2) == 0) {
                all.append("dye ").append(name.charAt(i)).append(' ').append(draw(10)).append(";");
            }
        }
        if (draw(2) == 0) {
            String[] plain = {"60", "5 + rank", "x + y", "12 * rank", "99", "x - 3"};
            all.append("long").append(law(plain[draw(plain.length)]));
        }
        for (int i = draw(7); i > 0; i--) {
            all.append("pillar ").append(draw(draw(2) == 0 ? 3 : 11)).append(' ');
            all.append(draw(draw(2) == 0 ? 3 : 11)).append(";");
        }
        if (draw(2) == 0) {
            all.append("seed ").append(draw(10000)).append(";");
        }
        return all.toString();
    }

    /** A text with a few bytes or TOKENS of it changed, so that it may have FAULTS. */
    private String spoilt(String text) {
        String all = text;
        for (int i = draw(3); i >= 0; i--) {
            int from = draw(all.length() + 1);
            int to = Math.min(all.length(), from + draw(4));
            String put = draw(3) == 0 ? "" : (draw(2) == 0 ? " " : "") + WORDS[draw(WORDS.length)];
            switch (draw(4)) {
                case 0:
                    all = all.substring(0, from) + all.substring(to);
                    break;
                case 1:
                    int start = draw(all.length() + 1);
                    all = all + all.substring(Math.min(start, from), Math.max(start, from));
                    break;
                default:
                    all = all.substring(0, from) + put + all.substring(to);
            }
        }
        return all.length() > 1980 ? all.substring(0, 1980) : all;
    }

    private int any(int n) {
        return draw(12) == 0 ? draw(5) == 0 ? Integer.MIN_VALUE : draw(40) - 20 : draw(n);
    }

    private void read(String where, ThreadTown x, NaiveTown n, String text) {
        int rest = (20 - text.length() % 20) % 20;
        String all = text + " ".repeat(rest);
        for (int i = 0; i < all.length(); i += 20) {
            int[] w = new int[5];
            for (int j = 0; j < 5; j++) {
                w[j] = Check.word(all, i + 4 * j);
            }
            Check.due(where + " feed", n.feed(w[0], w[1], w[2], w[3], w[4]), x.feed(w[0], w[1], w[2], w[3], w[4]));
        }
        Check.due(where + " back", n.back(rest), x.back(rest));
        Check.due(where + " read " + text, n.read(), x.read());
        Check.due(where + " place " + text, n.place(), x.place());
    }

    private void act(String where, ThreadTown x, NaiveTown n) {
        int a = any(7);
        int b = any(5);
        int c = any(3);
        switch (draw(24)) {
            case 0:
                Check.due(where + " wind " + a, n.wind(a), x.wind(a));
                break;
            case 1:
                Check.due(where + " home " + a, n.home(a), x.home(a));
                break;
            case 2:
                if (draw(3) == 0) {
                    Check.due(where + " cut " + a, n.cut(a), x.cut(a));
                }
                break;
            case 3:
            case 4:
            case 5:
                Check.due(where + " run " + b, n.run(b), x.run(b));
                break;
            case 6:
                int far = draw(3) == 0 ? any(260) : any(20);
                Check.due(where + " run " + far, n.run(far), x.run(far));
                break;
            case 7:
                for (int i = draw(draw(4) == 0 ? 35 : 4); i > 0; i--) {
                    Check.due(where + " undo", n.undo(), x.undo());
                }
                break;
            case 8:
                Check.due(where + " hold " + c, n.hold(c), x.hold(c));
                break;
            case 9:
                Check.due(where + " restore " + c, n.restore(c), x.restore(c));
                break;
            case 10:
            case 11:
                int other = any(7);
                boolean over = draw(3) != 0;
                Check.due(where + " tell", n.tell(a, other, over), x.tell(a, other, over));
                break;
            case 12:
                if (draw(6) == 0) {
                    Check.due(where + " forget", n.forget(), x.forget());
                }
                break;
            default:
                for (int i = draw(6); i >= 0; i--) {
                    int man = any(7);
                    int way = any(5);
                    Check.due(where + " step " + man + " " + way, n.step(man, way), x.step(man, way));
                }
        }
    }

    private void lookAround(String where, ThreadTown x, NaiveTown n) {
        int a = any(7);
        int b = any(7);
        int c = any(4);
        Check.due(where + " orders", n.orders(), x.orders());
        Check.due(where + " orderAt " + b, n.orderAt(b), x.orderAt(b));
        Check.due(where + " cuts " + c, n.cuts(c), x.cuts(c));
        Check.due(where + " over " + a + b, n.over(a, b), x.over(a, b));
        Check.due(where + " waits " + a, n.waits(a), x.waits(a));
        Check.due(where + " turns " + a + b, n.turns(a, b), x.turns(a, b));
        Check.due(where + " most " + c, n.most(c), x.most(c));
        Check.due(where + " dusk " + b + c, n.dusk(b, c), x.dusk(b, c));
        Check.due(where + " shown " + b, n.shown(b), x.shown(b));
        Check.due(where + " uppermost " + a, n.uppermost(a), x.uppermost(a));
        Check.due(where + " knows " + a, n.knows(a), x.knows(a));
        Check.due(where + " links " + a + b, n.links(a, b), x.links(a, b));
        Check.due(where + " rounds", n.rounds(), x.rounds());
        Check.due(where + " crowd " + c, n.crowd(c), x.crowd(c));
        Check.due(where + " thieves", n.thieves(), x.thieves());
        Check.due(where + " nearest " + a + c, n.nearest(a, c), x.nearest(a, c));
        Check.due(where + " unfair", n.unfair(), x.unfair());
        for (int i = 0; i < 12; i++) {
            int what = any(13);
            int at = draw(3) == 0 ? any(6) : draw(30);
            int px = any(13);
            int py = any(13);
            int way = any(6);
            int up = any(4) - 1;
            Check.due(where + " count " + what, n.count(what), x.count(what));
            Check.due(where + " man " + a + what, n.man(a, what), x.man(a, what));
            Check.due(where + " piece " + a + " " + at, n.piece(a, at, what / 3), x.piece(a, at, what / 3));
            Check.due(where + " street", n.street(px, py, way, up), x.street(px, py, way, up));
            Check.due(where + " shows", n.shows(px, py, way), x.shows(px, py, way));
        }
    }

    private void foresee(String where, ThreadTown x, NaiveTown n) {
        int a = any(7);
        int b = any(7);
        Check.due(where + " bestDusk", n.bestDusk(), x.bestDusk());
        Check.due(where + " meet " + a + b, n.meet(a, b), x.meet(a, b));
        int m = any(5);
        int minutes = any(draw(3) == 0 ? 42 : 12);
        int known = any(4);
        Check.due(where + " starts " + m + " " + minutes + " " + known,
            n.starts(m, minutes, known), x.starts(m, minutes, known));
    }

    private void lookAtText(String where, ThreadTown x, NaiveTown n) {
        for (int man = -1; man < 8; man++) {
            Check.due(where + " way " + man, n.way(man), x.way(man));
            Check.due(where + " lives " + man, n.lives(man), x.lives(man));
            for (int i = -1; i < 7; i++) {
                Check.due(where + " wayAt " + man + i, n.wayAt(man, i), x.wayAt(man, i));
            }
        }
        for (int what = -1; what < 3; what++) {
            Check.due(where + " plain " + what, n.plain(what), x.plain(what));
        }
    }

    private void run(long seed) {
        ThreadTown x = new ThreadTown();
        NaiveTown n = new NaiveTown();
        for (int part = 0; part < 3; part++) {
            String text = text();
            if (draw(2) == 0) {
                read("run " + seed, x, n, spoilt(text));
                lookAround("run " + seed + " spoilt", x, n);
            }
            read("run " + seed, x, n, text);
            if (draw(3) == 0) {
                lookAtText("run " + seed, x, n);
            }
            for (int i = 0; i < 40; i++) {
                String where = "run " + seed + " part " + part + " act " + i;
                act(where, x, n);
                if (draw(4) == 0) {
                    lookAround(where, x, n);
                }
                if (draw(16) == 0) {
                    foresee(where, x, n);
                }
            }
        }
    }

    public static void main(String[] args) {
        int from = args.length > 0 ? Integer.parseInt(args[0]) : 1;
        int to = args.length > 1 ? Integer.parseInt(args[1]) : 400;
        for (int seed = from; seed <= to; seed++) {
            new RandomRunsTest(seed).run(seed);
        }
        for (int seed = from; seed <= to; seed++) {
            RandomRunsTest texts = new RandomRunsTest(-seed);
            for (int i = 0; i < 10; i++) {
                texts.read("text " + seed, new ThreadTown(), new NaiveTown(), texts.spoilt(texts.text()));
            }
        }
        Check.finish();
    }
}
