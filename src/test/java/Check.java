/** What the tests share: due answers, and texts put on a tape. */
final class Check {
    private static int checks = 0;
    private static int wrong = 0;
    private static String about = "";

    private Check() {
    }

    static void due(String what, long want, long got) {
        checks++;
        if (want != got) {
            wrong++;
            System.out.println(about + what + " answered " + got + ", due is " + want);
        }
    }

    /** What stands ahead of each wrong answer from here on. */
    static void about(String what) {
        about = what;
    }

    static int checks() {
        return checks;
    }

    static void due(String what, boolean want, boolean got) {
        due(what, want ? 1 : 0, got ? 1 : 0);
    }

    /** Twenty bytes at a time, blanks at the end, which are taken back. */
    static void feed(ThreadTown town, String text) {
        int rest = (20 - text.length() % 20) % 20;
        StringBuilder all = new StringBuilder(text);
        for (int i = 0; i < rest; i++) {
            all.append(' ');
        }
        for (int i = 0; i < all.length(); i += 20) {
            town.feed(word(all, i), word(all, i + 4), word(all, i + 8), word(all, i + 12), word(all, i + 16));
        }
        town.back(rest);
    }

    static int word(CharSequence text, int i) {
        int word = 0;
        for (int j = i; j < i + 4; j++) {
            word = word << 8 | (text.charAt(j) & 255);
        }
        return word;
    }

    static int read(ThreadTown town, String text) {
        feed(town, text);
        return town.read();
    }

    /** A text, read by a new town: its FAULT (0: none) and where; the tape is empty then. */
    static void fault(String text, int fault, int place) {
        ThreadTown town = new ThreadTown();
        due("read " + text, fault, read(town, text));
        due("place of " + text, place, town.place());
        due("tape behind " + text, 0, town.count(8));
    }

    static void fine(String text) {
        fault(text, 0, -1);
    }

    /** What can be seen of a town: the counts, the MEN, the PIECES. */
    static String seen(ThreadTown town) {
        StringBuilder all = new StringBuilder("counts");
        for (int i = 0; i < 12; i++) {
            all.append(' ').append(town.count(i));
        }
        int men = town.count(0);
        for (int man = 0; man < men; man++) {
            all.append(" MAN ").append(man);
            for (int i = 0; i < 8; i++) {
                all.append(' ').append(town.man(man, i));
            }
            int pieces = town.man(man, 2);
            for (int i = 0; i < 3 * pieces; i++) {
                all.append(i % 3 == 0 ? " PIECE " : " ").append(town.piece(man, i / 3, i % 3));
            }
        }
        return all.toString();
    }

    static void due(String what, String want, String got) {
        due(what + ": " + got + " (as due: " + want + ")", true, want.equals(got));
    }

    /** A new town with a text that must have no FAULT. */
    static ThreadTown town(String text) {
        ThreadTown town = new ThreadTown();
        due("read of " + text, 0, read(town, text));
        return town;
    }

    /** STEPS one after the other: "a" is MAN 0, "b" MAN 1, ...; "a11b2" is a, a, b. */
    static void steps(ThreadTown town, String moves) {
        int man = 0;
        for (int i = 0; i < moves.length(); i++) {
            char sign = moves.charAt(i);
            if (sign >= 'a' && sign <= 'g') {
                man = sign - 'a';
            } else {
                due("step " + i + " of " + moves, true, town.step(man, sign - '0'));
            }
        }
    }

    static void finish() {
        System.out.println(checks + " checks, " + wrong + " wrong");
        if (wrong != 0 || checks == 0) {
            System.exit(1);
        }
    }
}
