/** What the tests share: due answers, and texts put on a tape. */
final class Check {
    private static int checks = 0;
    private static int wrong = 0;

    private Check() {
    }

    static void due(String what, long want, long got) {
        checks++;
        if (want != got) {
            wrong++;
            System.out.println(what + " answered " + got + ", due is " + want);
        }
    }

    static void due(String what, boolean want, boolean got) {
        due(what, want ? 1 : 0, got ? 1 : 0);
    }

    /** Twenty bytes at a time, blanks at the end, which are taken back. */
    static void feed(ThreadTown town, String text) {
        int rest = (20 - text.length() % 20) % 20;
        StringBuilder all = new StringBuilder(text);
        for (int i = 0; i < rest; i++) {
            all.append(' ');
        }
        for (int i = 0; i < all.length(); i += 20) {
            town.feed(word(all, i), word(all, i + 4), word(all, i + 8), word(all, i + 12), word(all, i + 16));
        }
        town.back(rest);
    }

    static int word(CharSequence text, int i) {
        int word = 0;
        for (int j = i; j < i + 4; j++) {
            word = word << 8 | (text.charAt(j) & 255);
        }
        return word;
    }

    static int read(ThreadTown town, String text) {
        feed(town, text);
        return town.read();
    }

    /** A new town with a text that must have no FAULT. */
    static ThreadTown town(String text) {
        ThreadTown town = new ThreadTown();
        due("read of " + text, 0, read(town, text));
        return town;
    }

    /** STEPS one after the other: "a" is MAN 0, "b" MAN 1, ...; "a11b2" is a, a, b. */
    static void steps(ThreadTown town, String moves) {
        int man = 0;
        for (int i = 0; i < moves.length(); i++) {
            char sign = moves.charAt(i);
            if (sign >= 'a' && sign <= 'g') {
                man = sign - 'a';
            } else {
                due("step " + i + " of " + moves, true, town.step(man, sign - '0'));
            }
        }
    }

    static void finish() {
        System.out.println(checks + " checks, " + wrong + " wrong");
        if (wrong != 0 || checks == 0) {
            System.exit(1);
        }
    }
}
