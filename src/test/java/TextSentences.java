import java.util.Arrays;

/** Sentence by sentence: Terms I, and promises 1 to 5 (a new object, the tape, texts and their FAULTS). */
final class TextSentences {
    private static final String[] WORDS = {"town", "man", "goes", "long", "errand", "pillar", "dye", "seed",
        "if", "then", "else", "x", "y", "minute", "left", "lot", "rank"};
    private static final String SEVEN =
        "man a 0 0;man b 0 0;man c 0 0;man d 0 0;man e 0 0;man f 0 0;man g 0 0;";
    private static final String ALL_TOLD = "town 3 4;seed 7;man a 1 1;man b 0 0;dye a 3;goes a = 2;long = 9;"
        + "errand a 2 2;pillar 0 1;";
    private static final int BLANKS = 0x20202020;

    private TextSentences() {
    }

    /** A text of so many TOKENS (8 or more): TELLS of three and of four. */
    private static String tokens(int n) {
        int fours = n % 3;
        return "town 6 6;".repeat(fours) + "seed 1;".repeat((n - 4 * fours) / 3);
    }

    /** Broken off behind each TOKEN, or going on wrongly there, a TELL is SYNTAX; whole it is fine. */
    private static void wholeAlone(String ahead, String... tell) {
        StringBuilder text = new StringBuilder(ahead);
        for (int i = 0; i < tell.length; i++) {
            if (i > 0) {
                Check.fault(text.toString(), 1, text.length());
                Check.fault(text + " town", 1, text.length() + 1);
            }
            text.append(' ').append(tell[i]);
        }
        Check.fine(text.toString());
        Check.fault(text + ";", 1, text.length());
    }

    private static void told(String text, int wide, int deep) {
        ThreadTown town = Check.town(text);
        Check.due("WIDE of " + text, wide, town.count(1));
        Check.due("DEEP of " + text, deep, town.count(2));
    }

    private static void bytes() {
        Sentence.of(0, "An object is used for at most 512 calls after it has been made; "
            + "what later calls answer is free.");
        ThreadTown town = new ThreadTown();
        Check.due("call 1", 20, town.feed(0x6d616e20, 0x61203020, 0x303b2020, BLANKS, BLANKS));
        Check.due("call 2", 0, town.read());
        for (int call = 3; call <= 511; call++) {
            Check.due("call " + call, true, call % 2 == 1 ? town.step(0, 1) : town.wind(0));
        }
        Check.due("call 512", 30, town.count(9));

        Sentence.of(0, "A TEXT has 2,000 bytes at most.");
        String blanks = " ".repeat(1991);
        told(blanks + "town 3 4;", 3, 4);
        Check.fault(blanks + "town 3 4x", 1, 1999);
        Check.fault(blanks + "town 3 4 ", 1, 2000);
    }

    private static void tokens() {
        Sentence.of(0, "TOKENS, the longest that can be, with blanks (9, 10, 13, 32) between or not:");
        for (char blank : new char[] {9, 10, 13, 32}) {
            told("town" + blank + "3" + blank + blank + "4" + blank + ";" + blank, 3, 4);
        }
        for (char other : new char[] {0, 8, 11, 12, 14, 31, 33, 127, 128, 137, 160, 255}) {
            Check.fault("seed" + other + "1;", 1, 4);
        }
        told("town3 4;man a0 0;", 3, 4);
        Check.fault("town34;", 1, 6);
        Check.fault("townx 3 4;", 1, 0);
        Check.fault("man ab0 0;man a b 0;", 1, 16);

        Sentence.of(0, "NAMES (letters a .. z, 8 at most, none of the words in quotes),");
        Check.fine("man a 0 0;man z 0 0;man azazazaz 0 0;man azazazay 0 0;man azazaza 0 0;");
        Check.fault("man azazazaza 0 0;", 1, 4);
        Check.fault("man 1 0 0;", 1, 4);
        for (char other : new char[] {'a' - 1, 'z' + 1, 'A', 'Z', 'a' + 128}) {
            Check.fault("man " + other + " 0 0;", 1, 4);
        }
        for (String word : WORDS) {
            Check.fault("man " + word + " 0 0;", 1, 4);
            Check.fine("man " + word + "q 0 0;man q" + word + " 0 0;");
        }

        Sentence.of(0, "INTS (1 to 4 digits),");
        told("town 3 4;", 3, 4);
        told("town 0003 0012;", 3, 12);
        Check.fine("seed 0;seed 9999;seed 0000;");
        Check.fault("seed 10000;", 1, 5);
        Check.fault("seed 00000;", 1, 5);
        Check.fault("seed 1" + (char) ('9' + 1) + ";", 1, 6);
        Check.fault("seed 1" + (char) ('0' - 1) + ";", 1, 6);
    }

    private static void signs() {
        Sentence.of(0, "SIGNS ; = + - * / < ( ) .");
        for (int sign = 0; sign < 256; sign++) {
            // Behind an 8 of a LAW all that is no SIGN of an E, no digit and no blank is SYNTAX.
            String text = "man a 0 0;long = 8" + (char) sign + "2;";
            int due = "+-*/".indexOf(sign);
            if (due >= 0) {
                Check.due("8 " + (char) sign + " 2", new int[] {10, 6, 16, 4}[due], Check.town(text).man(0, 3));
            } else if (sign >= '0' && sign <= '9') {
                Check.fine(text);
            } else {
                boolean next = sign == 9 || sign == 10 || sign == 13 || sign == 32 || sign == ';';
                Check.fault(text, 1, next ? 19 : 18);
            }
        }
        Check.fine("long=if(1)<2then 3else 4;");

        Sentence.of(0, "A longer one, all else, is no TOKEN.");
        Check.fault("man abcdefghijklmnop 0 0;", 1, 4);
        Check.fault("towntowntown 3 3;", 1, 0);
        Check.fault("seed 123456789;", 1, 5);
        Check.fault("seed 1;.", 1, 7);
        Check.fault("seed 1;\0", 1, 7);
        Check.fault("seed 1;'town' 3 3;", 1, 7);
    }

    private static void tells() {
        Sentence.of(0, "text: {TELL}.");
        Check.fine("");
        Check.fine(" \t\r\n");
        Check.fine("seed 1;");
        Check.fine("seed 1;seed 2;");
        Check.fault(";", 1, 0);
        Check.fault("seed 1;;", 1, 7);
        Check.fault("a 1;", 1, 0);
        Check.fault("1;", 1, 0);
        Sentence.of(0, "TELL: 'town' INT INT ';'");
        wholeAlone("", "town", "3", "4", ";");
        Sentence.of(0, "| 'man' NAME INT INT ';'");
        wholeAlone("", "man", "a", "3", "4", ";");
        Sentence.of(0, "| 'goes' NAME LAW ';'");
        wholeAlone("man a 0 0;", "goes", "a", "=", "1", ";");
        Sentence.of(0, "| 'long' LAW ';'");
        wholeAlone("", "long", "=", "1", ";");
        Sentence.of(0, "| 'errand' NAME INT INT ';'");
        wholeAlone("man a 0 0;", "errand", "a", "3", "4", ";");
        Sentence.of(0, "| 'pillar' INT INT ';'");
        wholeAlone("", "pillar", "3", "4", ";");
        Sentence.of(0, "| 'dye' NAME INT ';'");
        wholeAlone("man a 0 0;", "dye", "a", "3", ";");
        Sentence.of(0, "| 'seed' INT ';'.");
        wholeAlone("", "seed", "3", ";");
    }

    private static void laws() {
        Sentence.of(0, "LAW: '=' {'if' E '<' E 'then' E 'else'} E.");
        wholeAlone("", "long", "=", "if", "1", "<", "2", "then", "3", "else", "4", ";");
        wholeAlone("", "long", "=", "if", "1", "<", "2", "then", "3", "else", "if", "x", "<", "y", "then", "4",
            "else", "5", ";");
        Check.fault("long = if 1 < 2 then if 1 < 2 then 1 else 2 else 3;", 1, 21);
        Check.fault("long = (if 1 < 2 then 3 else 4);", 1, 8);
        Check.fault("long = 1 < 2;", 1, 9);
        Check.fault("long = if 1 < 2 < 3 then 1 else 2;", 1, 16);
        Sentence.of(0, "E: PART {('+' | '-') PART}.");
        wholeAlone("", "long", "=", "1", "+", "2", "-", "3", ";");
        Check.fault("long = + 1;", 1, 7);
        Check.fault("long = - 1;", 1, 7);
        Check.fault("long = 1 + - 1;", 1, 11);
        Check.due("9 - 5 - 3", 1, Check.town("man a 0 0;long = 9 - 5 - 3;").man(0, 3));
        Check.due("9 - 5 + 3", 7, Check.town("man a 0 0;long = 9 - 5 + 3;").man(0, 3));
        Sentence.of(0, "PART: UNIT {('*' | '/') UNIT}.");
        wholeAlone("", "long", "=", "1", "*", "2", "/", "3", ";");
        Check.fault("long = * 1;", 1, 7);
        Check.fault("long = 1 * / 1;", 1, 11);
        Check.due("2 + 3 * 4", 14, Check.town("man a 0 0;long = 2 + 3 * 4;").man(0, 3));
        Check.due("24 / 4 * 3", 18, Check.town("man a 0 0;long = 24 / 4 * 3;").man(0, 3));
        Check.due("24 / 4 / 3", 2, Check.town("man a 0 0;long = 24 / 4 / 3;").man(0, 3));
        Sentence.of(0, "UNIT: INT | VAR | '(' E ')'.");
        wholeAlone("", "long", "=", "(", "(", "7", ")", "+", "x", ")", ";");
        Check.fault("long = ();", 1, 8);
        Check.fault("long = (1;", 1, 9);
        Check.fault("long = 1);", 1, 8);
        Check.fault("long = (1 2);", 1, 10);
        Check.due("(2 + 3) * 4", 20, Check.town("man a 0 0;long = (2 + 3) * 4;").man(0, 3));
        Check.due("9 - (5 - 3)", 7, Check.town("man a 0 0;long = 9 - (5 - 3);").man(0, 3));
        String deepest = "1+2*(".repeat(6) + "1+2*1" + ")".repeat(6);
        Check.due("255 less 200", 55, Check.town("man a 0 0;long = " + deepest + "-200;").man(0, 3));
        Check.due("twice, by less than", 1, Check.town("man a 0 0;goes a = if " + deepest + "-1<" + deepest
            + " then 1 else 2;").man(0, 6));
        String longest = "man a 0 0;goes a = 1" + "+1".repeat(195) + ";";
        Check.due("196 in 400 TOKENS", 4, Check.town(longest).man(0, 6));
        ThreadTown again = new ThreadTown();
        for (int time = 0; time < 6; time++) {
            Check.due("read once more", 0, Check.read(again, longest));
            Check.due("196 once more", 4, again.man(0, 6));
        }
        Check.fault(longest + "x", 1, longest.length());
        Check.fault(longest + "seed 1;", 2, longest.length());
        Sentence.of(0, "VAR: 'x' | 'y' | 'minute' | 'left' | 'lot' | 'rank'.");
        for (int i = 0; i < WORDS.length; i++) {
            String text = "man a 0 0;goes a = " + WORDS[i] + ";";
            if (i >= 11) {
                Check.fine(text);
            } else {
                // An if is no VAR, but a LAW goes on with it.
                Check.fault(text, 1, WORDS[i].equals("if") ? 21 : 19);
            }
        }
        Check.fault("man a 0 0;goes a = a;", 1, 19);
    }

    private static void towns() {
        Sentence.of(0, "TOWN: corners (x, y), 0 <= x < WIDE, 0 <= y < DEEP (2 .. 12 each; 6 and 6; the last one).");
        for (int size = 2; size <= 12; size++) {
            told("town " + size + " " + (14 - size) + ";", size, 14 - size);
        }
        for (int size : new int[] {0, 1, 13, 9999}) {
            Check.fault("town " + size + " 6;", 5, 5);
            Check.fault("town 6 " + size + ";", 5, 7);
        }
        told("seed 1;", 6, 6);
        told("town 3 4;town 5 2;", 5, 2);
        Check.fine("town 3 2;man a 0 0;man b 2 1;");
        Check.fault("town 3 2;man a 3 1;", 6, 15);
        Check.fault("town 3 2;man a 2 2;", 6, 15);
        Check.fine("town 3 2;town 4 3;man a 3 2;");
        Check.fault("man a 3 2;town 4 3;town 3 2;", 6, 6);

        Sentence.of(0, "MEN, 7 at most (a NAME, their DOOR's corner, 0 .. 11 each), numbered from 0 on.");
        ThreadTown town = Check.town("town 12 12;man a 0 11;man b 1 10;man c 2 9;man d 3 8;man e 4 7;"
            + "man f 5 6;man g 11 0;");
        Check.due("MEN", 7, town.count(0));
        for (int man = 0; man < 7; man++) {
            Check.due("x of " + man, man < 6 ? man : 11, town.man(man, 0));
            Check.due("y of " + man, man < 6 ? 11 - man : 0, town.man(man, 1));
        }
        Check.due("no MAN 7", -1, town.man(7, 0));
        Check.due("no MAN -1", -1, town.man(-1, 0));
        Check.fault("town 12 12;man a 12 0;", 5, 17);
        Check.fault("town 12 12;man a 0 12;", 5, 19);
        Check.fault(SEVEN + "man h 0 0;", 2, 70);
    }

    private static void whatIsToldOfMen() {
        Sentence.of(0, "GOES of a MAN: a LAW (0, if not told; the last one).");
        ThreadTown town = Check.town("man a 0 0;man b 0 0;man c 0 0;goes b = 1;goes c = 1;goes b = 2;goes b = 3;");
        int[] goes = {0, 3, 1};
        for (int man = 0; man < 3; man++) {
            Check.due("goes " + man, goes[man], town.man(man, 6));
        }
        Sentence.of(0, "LONG: a LAW: how long a MAN's thread is (30, if not told; the last one).");
        Check.due("not told", 30, Check.town("man a 0 0;").man(0, 3));
        Check.due("told once", 7, Check.town("long = 7;man a 0 0;").man(0, 3));
        Check.due("told again", 9, Check.town("long = 7;man a 0 0;long = 8;long = 9;").man(0, 3));
        Sentence.of(0, "ERRANDS, 6 at most for each MAN: corners (0 .. 11 each).");
        StringBuilder text = new StringBuilder("town 12 12;" + SEVEN);
        for (int i = 0; i < 42; i++) {
            text.append("errand ").append("abcdefg".charAt(i % 7)).append(" 0 ").append(5 + i / 7).append(';');
        }
        town = Check.town(text.toString());
        Check.due("ERRANDS", 42, town.count(7));
        for (int man = 0; man < 7; man++) {
            Check.due("the sixth of " + man, 5, town.wayAt(man, 5));
            Check.due("no seventh of " + man, -1, town.wayAt(man, 6));
        }
        Check.fault(text + "errand a 0 0;", 2, text.length());
        Check.due("0 and 11", 22, Check.town("town 12 12;man a 0 0;errand a 11 11;").way(0));
        Check.fault("town 12 12;man a 0 0;errand a 12 0;", 5, 30);
        Check.fault("town 12 12;man a 0 0;errand a 0 12;", 5, 32);
        Sentence.of(0, "DYE of a MAN's thread: 0 .. 9 (0; the last one).");
        town = Check.town("man a 0 0;man b 0 0;man c 0 0;dye b 1;dye b 9;dye c 0;");
        Check.due("not told", 0, town.man(0, 7));
        Check.due("the last one", 9, town.man(1, 7));
        Check.due("0 told", 0, town.man(2, 7));
        Check.fault("man a 0 0;dye a 10;", 5, 16);
    }

    private static void pillarsAndSeed() {
        Sentence.of(0, "PILLARS, 6 at most: within the square of corners x, x + 1 and y, y + 1 (0 .. 10 each).");
        String pillars = "pillar 0 0;pillar 10 10;pillar 0 10;pillar 10 0;pillar 1 1;pillar 1 1;";
        ThreadTown town = Check.town("town 12 12;man a 10 10;man b 11 10;" + pillars);
        Check.due("PILLARS", 6, town.count(6));
        Check.steps(town, "a1b1");
        Check.due("at x + 0", 0, town.turns(0, 1));
        Check.due("at x + 1", 1, town.turns(1, 1));
        Check.due("at another y", 0, town.turns(1, 3));
        Check.due("no seventh", -1000, town.turns(1, 6));
        Check.fault(pillars + "pillar 1 1;", 2, pillars.length());
        Check.fault("pillar 11 0;", 5, 7);
        Check.fault("pillar 0 11;", 5, 9);
        Sentence.of(0, "SEED 0 .. 9999 (0).");
        int[] seeds = {0, 0, 1, 9999};
        String[] tells = {"", "seed 0;", "seed 1;", "seed 9999;"};
        for (int i = 0; i < seeds.length; i++) {
            town = Check.town(tells[i] + "man a 0 0;goes a = lot;");
            for (int minute = 0; minute < 6; minute++) {
                int lot = WalkSentences.lot(100, seeds[i], 8 * minute);
                Check.due("minute " + minute + " by " + tells[i], lot % 6, town.man(0, 6));
                town.run(1);
            }
        }
        Check.fault("seed 10000;", 1, 5);
    }

    private static void firstFault() {
        Sentence.of(0, "FAULTS of a text, the first by its place (a byte; the text's end: its length), "
            + "of one place the least:");
        Check.fault("seed x;town x;", 1, 5);
        Check.fault(SEVEN + "man h x 0;", 2, 70);
        Check.fault("man h x 0;" + SEVEN, 1, 6);
        Check.fault(tokens(399) + " seed seed", 1, tokens(399).length() + 6);
        Check.fault(tokens(400) + " else", 1, tokens(400).length() + 1);
        Check.fault(tokens(400) + " ?", 1, tokens(400).length() + 1);
        Check.fault("seed 1", 1, 6);
        Check.fault("seed 1 \n\t\r", 1, 10);
        Check.fault("    x", 1, 4);
        Check.fault("town 1 13;man a 12 12;", 5, 5);
        Check.fault("man a 0 0;man a 0 0;dye b 10;", 3, 14);
        Check.fault("man a 0 0;dye b 10;man a 0 0;", 4, 14);
        Check.fault("man a 0 12;man a 0 0;dye b 1;", 5, 8);
        Sentence.of(0, "1 SYNTAX: a TOKEN, or what is none, with which no text goes on.");
        Check.fault("town 3 ;", 1, 7);
        Check.fault("town 3 ?;", 1, 7);
        Check.fault("town 3 12345;", 1, 7);
        Check.fault("town 3 4 ;4", 1, 10);
        Check.fault("goes a = 1;town", 1, 15);
    }

    private static void roomForTokens() {
        Sentence.of(0, "2 ROOM: a 401st TOKEN;");
        String[] tells = {"town 3 3 ;", "man q 0 0 ;", "pillar 0 0 ;", "seed 1 ;", "goes q = 1 ;", "dye q 0 ;",
            "errand q 0 0 ;", "long = if 1 < x then 2 else ( 3 + 4 - 5 * 6 / 7 ) ;"};
        for (String tell : tells) {
            int place = 0;
            String[] parts = tell.split(" ");
            for (int i = 0; i < parts.length; i++) {
                String ahead = tokens(400 - i);
                Check.fault(ahead + tell, 2, ahead.length() + place);
                if (i > 0) {
                    String whole = ahead + tell.substring(0, place);
                    Check.fault(whole, 1, whole.length());
                }
                place += parts[i].length() + 1;
            }
            if (tell.indexOf('q') < 0 || tell.startsWith("man")) {
                Check.fine(tokens(400 - parts.length) + tell);
            }
        }
        Check.fine(tokens(400));
        Check.fine(tokens(400) + "   ");
    }

    private static void roomForMore() {
        Sentence.of(0, "an 8th man, a 7th pillar (at its first TOKEN);");
        Check.fine(SEVEN);
        Check.fault(SEVEN + "man h 0 0;", 2, 70);
        Check.fault(SEVEN + " man", 2, 71);
        Check.fault("man a 0 0;".repeat(8), 2, 70);
        Check.fine("pillar 0 0;".repeat(6));
        Check.fault("pillar 0 0;".repeat(7), 2, 66);
        Check.fault("pillar 0 0;".repeat(6) + "pillar x", 2, 66);
        Sentence.of(0, "a 7th errand of a MAN told (at its first TOKEN);");
        String six = "man a 0 0;man b 0 0;" + "errand a 0 0;".repeat(6) + "errand b 0 0;".repeat(6);
        Check.fine(six);
        Check.fault(six + "errand a 0 0;", 2, six.length());
        Check.fault(six + " errand b x", 2, six.length() + 1);
        Check.fault(six + "errand c 0 0;", 4, six.length() + 7);
        Check.fault("errand a 0 0;".repeat(8) + "man a 0 0;", 4, 7);
        Check.fault("errand a 0 0;" + six + "errand a 0 0;", 2, six.length() + 13);
        // 70 TOKENS tell two MEN and six errands each; the next two are the 398th and 399th, and so on.
        for (int ahead = 397; ahead < 400; ahead++) {
            String text = six + tokens(ahead - 70);
            Check.fault(text + "errand b", 2, text.length());
            Check.fault(text + "errand c", ahead == 399 ? 2 : 1, text.length() + (ahead == 399 ? 7 : 8));
        }
        Sentence.of(0, "a 5th if of a LAW (at it);");
        String fourIfs = "if 1<2 then 3 else ".repeat(4);
        Check.fine("man a 0 0;long = " + fourIfs + "5;goes a = " + fourIfs + "5;goes a = " + fourIfs + "5;");
        Check.fault("long = " + fourIfs + "if", 2, 7 + fourIfs.length());
        Check.fault("long = " + fourIfs + "if 1<2 then 3 else 4;", 2, 7 + fourIfs.length());
        Check.fault("long = 1;long = " + fourIfs + fourIfs + "5;", 2, 16 + fourIfs.length());
        Sentence.of(0, "a 7th ( within one another (at it).");
        Check.fine("long = ((((((1))))))+((((((1))))))*((((((1))))));");
        Check.fine("long = (1+(2*(3+(4*(5+(6*7+8)+9)+1)+2)+3)+4);");
        Check.fine("long = if ((((((1))))))<((((((1)))))) then ((((((1)))))) else ((((((1))))));");
        Check.fault("long = (((((((1)))))));", 2, 13);
        Check.fault("long = ((((((1+(", 2, 15);
        Check.fault("long = ((((((1))))))+(((((((1)))))));", 2, 27);
        Check.fault("long = if 1<((((((((1 then 2 else 3;", 2, 18);
    }

    private static void laterFaults() {
        Sentence.of(0, "If there is none, likewise: 3 TWICE: a NAME told already.");
        Check.fault("man a 0 0;man b 0 0;man a 0 0;man b 0 0;", 3, 24);
        Check.fine("man a 0 0;man aa 0 0;man b 0 0;");
        Check.fault("man a 0 0;man a 0 0;x", 1, 20);
        Check.fault("man a 0 0;".repeat(8), 2, 70);
        Check.fault("man a 0 0;man a 12 0;", 3, 14);
        Sentence.of(0, "4 NAME: no such MAN told ahead.");
        Check.fault("goes a = 1;man a 0 0;", 4, 5);
        Check.fault("errand a 0 0;man a 0 0;", 4, 7);
        Check.fault("dye a 1;man a 0 0;", 4, 4);
        Check.fault("man a 0 0;dye aa 1;", 4, 14);
        Check.fault("dye a 1;dye b 1;", 4, 4);
        Check.fault("dye a 1;dye", 1, 11);
        Sentence.of(0, "5 WRONG (at the INT): a number not as told above.");
        Check.fault("town 13 1;", 5, 5);
        Check.fault("town 12 1;", 5, 8);
        Check.fault("man a 12 99;", 5, 6);
        Check.fault("man a 11 99;", 5, 9);
        Check.fault("man a 0 0;errand a 0 12;", 5, 21);
        Check.fault("pillar 11 0;", 5, 7);
        Check.fault("pillar 10 11;", 5, 10);
        Check.fault("man a 0 0;dye a 9999;", 5, 16);
        Check.fault("pillar 11 0;pillar", 1, 18);
        Check.fine("seed 9999;long = 9999;");
        Sentence.of(0, "If there is none of all these: 6 OUT: the first DOOR or errand's corner that is not in "
            + "the TOWN (at its first INT).");
        Check.fault("man a 5 6;", 6, 6);
        Check.fault("man a 6 5;", 6, 6);
        Check.fault("man a 5 5;errand a 5 6;man b 6 6;", 6, 19);
        Check.fault("man b 6 6;errand b 5 6;", 6, 6);
        Check.fine("man a 5 5;errand a 5 5;");
        Check.fault("man a 6 5;pillar 10 11;", 5, 20);
        Check.fault("man a 6 5;man a 0 0;", 3, 14);
        Check.fault("man a 6 5;dye b 0;", 4, 14);
        Check.fault("man a 6 5;dye", 1, 13);
        Check.fine("pillar 10 10;man a 5 5;");
    }

    private static void whatReadingChanges() {
        Sentence.of(0, "A text with a FAULT changes nothing but the tape;");
        String[] texts = {"town 9 9;seed", "man z 9 9;".repeat(8), "man z 0 0;man z 1 1;", "seed 1;goes a = 5;",
            "man z 1 1;dye z 10;", "town 2 2;man z 1 1;man w 2 0;"};
        int[] faults = {1, 2, 3, 4, 5, 6};
        for (int i = 0; i < texts.length; i++) {
            ThreadTown town = Check.town(ALL_TOLD);
            Check.steps(town, "a1b1");
            town.hold(1);
            town.run(1);
            town.tell(0, 1, true);
            String seen = Check.seen(town);
            Check.due(texts[i], faults[i], Check.read(town, texts[i]));
            Check.due("seen behind " + texts[i], seen, Check.seen(town));
            Check.due("WAY", 2, town.way(0));
            Check.due("PILLAR", 1, town.turns(0, 0));
            Check.due("undo", true, town.undo());
            Check.due("minute", 0, town.count(3));
            Check.due("LAW", 1, town.run(1));
            Check.due("he went by his LAW", 2, town.man(0, 0));
            Check.due("STARTS", 0, town.starts(1, 3, 1));
            Check.due("restore", true, town.restore(1));
            Check.due("tape", 0, town.count(8));
        }
        leaveNothing();
        Sentence.of(0, "else it is in place of the one ahead: minute 0, all at their DOORS, no thread lies, "
            + "nothing can be undone, nothing is TOLD, SLOTS hold nothing.");
        for (String text : new String[] {"", "man z 5 5;man w 4 4;goes z = lot;", ALL_TOLD}) {
            ThreadTown town = Check.town(ALL_TOLD);
            Check.due("another one", 0, Check.read(town, "man a 0 0;dye a 1;errand a 1 1;seed 5;"));
            Check.due("once more", 0, Check.read(town, ALL_TOLD));
            Check.steps(town, "a1b1");
            town.cut(1);
            town.hold(0);
            town.hold(2);
            town.run(3);
            town.tell(0, 1, true);
            Check.due(text, 0, Check.read(town, text));
            Check.due("seen behind " + text, Check.seen(Check.town(text)), Check.seen(town));
            Check.due("undo", false, town.undo());
            Check.due("restore 0", false, town.restore(0));
            Check.due("restore 2", false, town.restore(2));
            Check.due("forget", 0, town.forget());
            Check.due("way", Check.town(text).way(0), town.way(0));
            Check.due("nothing lies", -2, town.shows(1, 1, 1));
        }
    }

    /** What a text with a FAULT told ahead of it is not told in the next text. */
    private static void leaveNothing() {
        String[] faulty = {"town 9 8;" + ALL_TOLD + "seed",
            "long = ((((((1", "long = (1 + (2 - ", "long = if 1 < 2 then 3 else", "man a 9 9;", "dye a 0;"};
        String[] next = {"", "man a 5 5;man b 0 0;man c 0 0;goes c = lot;", "man a 0 0;long = ((((((7))))));",
            "man a 0 0;long = 2 * 3;goes a = 7 - 5;",
            "man a 0 0;" + "pillar 0 0;".repeat(6) + "errand a 0 0;".repeat(6)};
        for (String one : faulty) {
            for (String text : next) {
                ThreadTown town = Check.town(ALL_TOLD);
                Check.due(one, true, Check.read(town, one) > 0);
                Check.due(text + " behind " + one, 0, Check.read(town, text));
                ThreadTown fresh = Check.town(text);
                Check.due("seen of " + text, Check.seen(fresh), Check.seen(town));
                Check.due("way", fresh.way(0), town.way(0));
                Check.due("turns", fresh.turns(0, 0), town.turns(0, 0));
            }
        }
        ThreadTown town = new ThreadTown();
        for (int time = 0; time < 9; time++) {
            Check.due("one more that breaks off", 1, Check.read(town, "long = ((((((1"));
        }
        Check.due("a whole one", 0, Check.read(town, "man a 0 0;long = 2 * (3 + 4) - 1;"));
        Check.due("LONG", 13, town.man(0, 3));
    }

    private static void newObject() {
        Sentence.of(1, "As if an empty text had been read.");
        ThreadTown fresh = new ThreadTown();
        ThreadTown read = new ThreadTown();
        Check.due("read", 0, read.read());
        int[] due = {0, 6, 6, 0, 0, 0, 0, 0, 0, 0, 0, 0, -1};
        for (int i = 0; i < due.length; i++) {
            Check.due("count " + i, due[i], fresh.count(i));
            Check.due("count behind read " + i, due[i], read.count(i));
        }
        for (ThreadTown town : new ThreadTown[] {fresh, read}) {
            Check.due("place", -1, town.place());
            Check.due("back", -1, town.back(1));
            Check.due("man", -1, town.man(0, 0));
            Check.due("undo", false, town.undo());
            Check.due("restore", false, town.restore(0));
            Check.due("orders", 1, town.orders());
            Check.due("orderAt", -1, town.orderAt(0));
            Check.due("STREETS", 0, town.street(5, 5, 3, -1));
            Check.due("no STREET", -1, town.street(5, 5, 2, -1));
            Check.due("nobody MOST", -2, town.most(0));
            Check.due("unfair", 0, town.unfair());
            Check.due("STARTS", 1, town.starts(3, 40, 0));
            Check.due("run", 200, town.run(200));
        }
    }

    private static void feeding() {
        Sentence.of(2, "Twenty bytes, the highest of a first, come behind the tape: how many it has.");
        for (int i = 0; i < 40; i++) {
            int[] words = new int[10];
            Arrays.fill(words, BLANKS);
            words[i / 4] |= 0xff << 8 * (3 - i % 4);
            ThreadTown town = new ThreadTown();
            Check.due("how many", 20, town.feed(words[0], words[1], words[2], words[3], words[4]));
            Check.due("how many", 40, town.feed(words[5], words[6], words[7], words[8], words[9]));
            Check.due("read", 1, town.read());
            Check.due("byte " + i, i, town.place());
        }
        ThreadTown town = new ThreadTown();
        // "town 12 7;seed 1;   "
        town.feed(0x746f776e, 0x20313220, 0x373b7365, 0x65642031, 0x3b202020);
        Check.due("read", 0, town.read());
        Check.due("WIDE", 12, town.count(1));
        Check.due("DEEP", 7, town.count(2));
        Sentence.of(2, "NONE, and nothing comes, if it would have more than 2,000.");
        town = new ThreadTown();
        for (int i = 1; i < 100; i++) {
            Check.due("feed " + i, 20 * i, town.feed(BLANKS, BLANKS, BLANKS, BLANKS, BLANKS));
        }
        for (int back = 0; back < 20; back++) {
            Check.due("the hundredth", 2000, town.feed(BLANKS, BLANKS, BLANKS, BLANKS, BLANKS));
            Check.due("back " + back, 2000 - back, town.back(back));
            Check.due("too much at " + (2000 - back), -1, town.feed(-1, -1, -1, -1, -1));
            Check.due("nothing came", 2000 - back, town.count(8));
            Check.due("back the rest", 1980, town.back(20 - back));
        }
        Check.due("up to 2,000", 2000, town.feed(BLANKS, BLANKS, BLANKS, BLANKS, BLANKS));
        Check.due("too much", -1, town.feed(-1, -1, -1, -1, -1));
        Check.due("only blanks", 0, town.read());
    }

    private static void backAndRead() {
        Sentence.of(3, "The last n bytes of the tape go: how many it has.");
        ThreadTown town = new ThreadTown();
        Check.due("none of none", 0, town.back(0));
        Check.feed(town, "town 3 3;town 4 4;xy");
        Check.due("none", 20, town.back(0));
        Check.due("two", 18, town.back(2));
        Check.feed(town, "town 5 5;");
        Check.due("nine more", 27, town.count(8));
        Check.due("those go", 18, town.back(9));
        Check.due("read", 0, town.read());
        Check.due("WIDE", 4, town.count(1));
        Check.feed(town, "town 9 9;");
        Check.due("all", 0, town.back(9));
        Check.due("read nothing", 0, town.read());
        Check.due("WIDE of none", 6, town.count(1));
        Sentence.of(3, "NONE, and nothing goes, if it has not so many, or n is below 0.");
        for (int n : new int[] {1, 2000, Integer.MAX_VALUE, -1, Integer.MIN_VALUE}) {
            Check.due("back " + n + " of nothing", -1, new ThreadTown().back(n));
        }
        Check.feed(town, "town 9 9;");
        for (int n : new int[] {10, 2000, Integer.MAX_VALUE, -1, -9, Integer.MIN_VALUE}) {
            Check.due("back " + n, -1, town.back(n));
            Check.due("nothing goes", 9, town.count(8));
        }
        Check.due("read", 0, town.read());
        Check.due("WIDE", 9, town.count(1));
        Sentence.of(4, "The tape, which is empty then, is read: 0, or the number of its FAULT.");
        String[] texts = {"", "x", SEVEN + "man h 0 0;", "man a 0 0;man a 0 0;", "dye a 0;", "seed 1;town 1 1;",
            "man a 6 0;"};
        for (int i = 0; i < texts.length; i++) {
            town = new ThreadTown();
            Check.due(texts[i], i, Check.read(town, texts[i]));
            Check.due("empty then", 0, town.count(8));
            Check.due("an empty text", 0, town.read());
            Check.due("feed", 20, town.feed(BLANKS, BLANKS, BLANKS, BLANKS, BLANKS));
        }
        Sentence.of(5, "The byte of the latest read()'s FAULT; NONE without.");
        town = new ThreadTown();
        Check.due("new", -1, town.place());
        String[] latest = {"seed x;", "x", " seed 1", "seed 1;", "town 1 1;", ""};
        int[] places = {5, 0, 7, -1, 5, -1};
        for (int i = 0; i < latest.length; i++) {
            Check.read(town, latest[i]);
            Check.due("place of " + latest[i], places[i], town.place());
            Check.feed(town, "x");
            Check.due("fed only", places[i], town.place());
            town.back(1);
        }
    }

    static void run() {
        bytes();
        tokens();
        signs();
        tells();
        laws();
        towns();
        whatIsToldOfMen();
        pillarsAndSeed();
        firstFault();
        roomForTokens();
        roomForMore();
        laterFaults();
        whatReadingChanges();
        newObject();
        feeding();
        backAndRead();
    }
}
