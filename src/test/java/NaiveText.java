import java.util.ArrayList;
import java.util.HashMap;
import java.util.List;
import java.util.Map;

/** A text read the plain way: trees for LAWS, one pass for each kind of FAULT. */
final class NaiveText {
    static final class Fault extends RuntimeException {
        private static final long serialVersionUID = 1L;
        final int number;
        final int place;

        Fault(int number, int place) {
            super("fault " + number + " at " + place, null, false, false);
            this.number = number;
            this.place = place;
        }
    }

    /** An E: a number, a VAR, or two parts with a sign. */
    static final class E {
        char sign;
        String word;
        int number;
        E first;
        E second;
    }

    static final class Zero extends RuntimeException {
        private static final long serialVersionUID = 1L;

        Zero() {
            super("divided by 0", null, false, false);
        }
    }

    /** Of each branch: if .0 < .1 then .2; the last row has .2 alone. */
    static final class Law {
        final List<E[]> branches = new ArrayList<>();

        int value(Map<String, Integer> vars) {
            try {
                for (E[] branch : branches) {
                    if (branch[0] == null || of(branch[0], vars) < of(branch[1], vars)) {
                        return of(branch[2], vars);
                    }
                }
            } catch (Zero zero) {
                return 0;
            }
            throw new IllegalStateException("no else");
        }

        private static int of(E e, Map<String, Integer> vars) {
            switch (e.sign) {
                case 'n':
                    return e.number;
                case 'v':
                    return vars.get(e.word);
                default:
                    int first = of(e.first, vars);
                    int second = of(e.second, vars);
                    if (e.sign == '/' && second == 0) {
                        throw new Zero();
                    }
                    return e.sign == '+' ? first + second : e.sign == '-' ? first - second
                        : e.sign == '*' ? first * second : first / second;
            }
        }
    }

    static final class Token {
        String word;
        int place;
    }

    /** A TELL: its word, its NAME, its INTS (as TOKENS) and its LAW. */
    static final class Tell {
        String word;
        Token name;
        final List<Token> ints = new ArrayList<>();
        Law law;
    }

    static final class Man {
        String name;
        int x;
        int y;
        Law goes;
        int dye;
        final List<int[]> errands = new ArrayList<>();
        int longs;
    }

    private static final String WORDS =
        " town man goes long errand pillar dye seed if then else x y minute left lot rank ";
    private static final String VARS = " x y minute left lot rank ";

    int wide = 6;
    int deep = 6;
    int seed = 0;
    Law longLaw;
    final List<Man> men = new ArrayList<>();
    final List<int[]> pillars = new ArrayList<>();

    private final List<Token> tokens = new ArrayList<>();
    private final List<Tell> tells = new ArrayList<>();
    private int next = 0;

    NaiveText(String text) {
        lex(text);
        while (!peek().word.isEmpty()) {
            tells.add(readTell());
        }
        checkNamesAndNumbers();
        build();
        checkCorners();
        measure();
    }

    private void lex(String text) {
        int i = 0;
        while (true) {
            while (i < text.length() && " \t\n\r".indexOf(text.charAt(i)) >= 0) {
                i++;
            }
            Token token = new Token();
            token.place = i;
            int end = i;
            while (end < text.length() && text.substring(i, end + 1).matches("[a-z]+|[0-9]+")) {
                end++;
            }
            if (end == i && i < text.length()) {
                end = i + 1;
            }
            token.word = text.substring(i, end);
            tokens.add(token);
            if (token.word.isEmpty()) {
                return;
            }
            if (!token.word.matches("[a-z]{1,8}|[0-9]{1,4}|[-;=+*/<()]")) {
                token.word = "!";
            }
            i = end;
        }
    }

    private Token peek() {
        return tokens.get(next);
    }

    private static boolean isName(String word) {
        return word.matches("[a-z]{1,8}") && !WORDS.contains(" " + word + " ");
    }

    private Token take(boolean fits) {
        Token token = peek();
        if (!fits) {
            throw new Fault(1, token.place);
        }
        if (next == 400) {
            throw new Fault(2, token.place);
        }
        next++;
        return token;
    }

    private Token takeWord(String word) {
        return take(peek().word.equals(word));
    }

    private Token takeInt() {
        return take(peek().word.matches("[0-9]+"));
    }

    private Token takeName() {
        return take(isName(peek().word));
    }

    private int toldBefore(String word, String name) {
        int count = 0;
        for (Tell tell : tells) {
            if (tell.word.equals(word) && (name == null || tell.name.word.equals(name))) {
                count++;
            }
        }
        return count;
    }

    private Tell readTell() {
        Tell tell = new Tell();
        tell.word = peek().word;
        if (!tell.word.matches("town|man|goes|long|errand|pillar|dye|seed")) {
            throw new Fault(1, peek().place);
        }
        if (tell.word.equals("man") && toldBefore("man", null) == 7) {
            throw new Fault(2, peek().place);
        }
        if (tell.word.equals("pillar") && toldBefore("pillar", null) == 6) {
            throw new Fault(2, peek().place);
        }
        if (tell.word.equals("errand") && next + 1 < tokens.size()) {
            String name = tokens.get(next + 1).word;
            if (isName(name) && toldBefore("man", name) > 0 && errandsSince(name) == 6) {
                throw new Fault(2, peek().place);
            }
        }
        takeWord(tell.word);
        if (tell.word.matches("man|goes|errand|dye")) {
            tell.name = takeName();
        }
        if (tell.word.matches("goes|long")) {
            tell.law = readLaw();
        } else {
            tell.ints.add(takeInt());
            if (!tell.word.matches("dye|seed")) {
                tell.ints.add(takeInt());
            }
        }
        takeWord(";");
        return tell;
    }

    /** Errands told of a MAN behind his own TELL. */
    private int errandsSince(String name) {
        int count = 0;
        boolean told = false;
        for (Tell tell : tells) {
            if (tell.name != null && tell.name.word.equals(name)) {
                told |= tell.word.equals("man");
                count += told && tell.word.equals("errand") ? 1 : 0;
            }
        }
        return count;
    }

    private Law readLaw() {
        Law law = new Law();
        takeWord("=");
        while (peek().word.equals("if")) {
            if (law.branches.size() == 4) {
                throw new Fault(2, peek().place);
            }
            E[] branch = new E[3];
            takeWord("if");
            branch[0] = readE(0);
            takeWord("<");
            branch[1] = readE(0);
            takeWord("then");
            branch[2] = readE(0);
            takeWord("else");
            law.branches.add(branch);
        }
        law.branches.add(new E[] {null, null, readE(0)});
        return law;
    }

    private E readE(int depth) {
        E e = readPart(depth);
        while (peek().word.matches("[-+]")) {
            E both = new E();
            both.sign = take(true).word.charAt(0);
            both.first = e;
            both.second = readPart(depth);
            e = both;
        }
        return e;
    }

    private E readPart(int depth) {
        E e = readUnit(depth);
        while (peek().word.matches("[*/]")) {
            E both = new E();
            both.sign = take(true).word.charAt(0);
            both.first = e;
            both.second = readUnit(depth);
            e = both;
        }
        return e;
    }

    private E readUnit(int depth) {
        E e = new E();
        String word = peek().word;
        if (word.matches("[0-9]+")) {
            e.sign = 'n';
            e.number = Integer.parseInt(word);
            take(true);
        } else if (!word.isEmpty() && VARS.contains(" " + word + " ")) {
            e.sign = 'v';
            e.word = word;
            take(true);
        } else {
            if (word.equals("(") && depth == 6) {
                throw new Fault(2, peek().place);
            }
            takeWord("(");
            e = readE(depth + 1);
            takeWord(")");
        }
        return e;
    }

    private void checkNamesAndNumbers() {
        List<String> names = new ArrayList<>();
        for (Tell tell : tells) {
            if (tell.word.equals("man")) {
                if (names.contains(tell.name.word)) {
                    throw new Fault(3, tell.name.place);
                }
                names.add(tell.name.word);
            } else if (tell.name != null && !names.contains(tell.name.word)) {
                throw new Fault(4, tell.name.place);
            }
            for (Token number : tell.ints) {
                int value = Integer.parseInt(number.word);
                int least = tell.word.equals("town") ? 2 : 0;
                int most = tell.word.equals("town") ? 12 : tell.word.matches("man|errand") ? 11
                    : tell.word.equals("dye") ? 9 : tell.word.equals("pillar") ? 10 : 9999;
                if (value < least || value > most) {
                    throw new Fault(5, number.place);
                }
            }
        }
    }

    private Man named(String name) {
        for (Man man : men) {
            if (man.name.equals(name)) {
                return man;
            }
        }
        throw new IllegalStateException(name);
    }

    private void build() {
        for (Tell tell : tells) {
            int[] ints = new int[2];
            for (int i = 0; i < tell.ints.size(); i++) {
                ints[i] = Integer.parseInt(tell.ints.get(i).word);
            }
            switch (tell.word) {
                case "town":
                    wide = ints[0];
                    deep = ints[1];
                    break;
                case "man":
                    Man man = new Man();
                    man.name = tell.name.word;
                    man.x = ints[0];
                    man.y = ints[1];
                    men.add(man);
                    break;
                case "goes":
                    named(tell.name.word).goes = tell.law;
                    break;
                case "long":
                    longLaw = tell.law;
                    break;
                case "errand":
                    named(tell.name.word).errands.add(ints);
                    break;
                case "pillar":
                    pillars.add(ints);
                    break;
                case "dye":
                    named(tell.name.word).dye = ints[0];
                    break;
                default:
                    seed = ints[0];
            }
        }
    }

    private void checkCorners() {
        for (Tell tell : tells) {
            if (tell.word.matches("man|errand")) {
                int x = Integer.parseInt(tell.ints.get(0).word);
                int y = Integer.parseInt(tell.ints.get(1).word);
                if (x >= wide || y >= deep) {
                    throw new Fault(6, tell.ints.get(0).place);
                }
            }
        }
    }

    private void measure() {
        for (int i = 0; i < men.size(); i++) {
            Map<String, Integer> vars = new HashMap<>();
            for (String name : VARS.trim().split(" ")) {
                vars.put(name, 0);
            }
            vars.put("x", men.get(i).x);
            vars.put("y", men.get(i).y);
            vars.put("rank", i);
            men.get(i).longs = longLaw == null ? 30 : Math.max(0, Math.min(60, longLaw.value(vars)));
        }
    }
}
