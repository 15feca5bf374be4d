import java.util.Arrays;

/**
 * A town in which everyone ties a thread to their door at dawn and unwinds it wherever they go.
 * The words of the document (MAN, STREET, PIECE, OVER, ...) are used here as they are there.
 */
public final class ThreadTown {
    public static final int NONE = -1;

    private static final int NOT_THERE = -2;
    private static final int NO_TURNS = -1000;
    private static final int TAPE = 2000;
    private static final int TOKENS = 400;
    private static final int MEN = 7;
    private static final int ERRANDS = 6;
    private static final int PILLARS = 6;
    private static final int SIDE = 12;
    private static final int CORNERS = SIDE * SIDE;
    private static final int STREETS = 2 * CORNERS;
    private static final int LONGEST = 60;
    private static final int PIECES = MEN * LONGEST;
    private static final int UNDOS = 30;
    private static final int SLOTS = 3;
    private static final int TELLINGS = 12;
    private static final int MINUTES = 200;
    private static final int START_ROWS = 1000;
    private static final int RULES = 5;
    private static final int FAR = 1000000;

    private static final int[] STEP_X = {0, 0, 1, 0, -1};
    private static final int[] STEP_Y = {0, 1, 0, -1, 0};

    private final int[] tape = new int[TAPE];
    private int tapeSize;
    private int faultPlace = NONE;
    private final Reader reader = new Reader();
    private Text text = new Text();
    private final Day today = new Day();
    private final Day trial = new Day();
    private final Past past = new Past();
    private final Ties ties = new Ties();
    private final Ways ways = new Ways();
    private final Plain plainDay = new Plain();
    private final Evening evening = new Evening();
    private final Told told = new Told();

    public ThreadTown() {
        today.begin(text);
    }

    public int feed(int a, int b, int c, int d, int e) {
        if (tapeSize + 20 > TAPE) {
            return NONE;
        }
        putWord(a);
        putWord(b);
        putWord(c);
        putWord(d);
        putWord(e);
        return tapeSize;
    }

    private void putWord(int word) {
        for (int shift = 24; shift >= 0; shift -= 8) {
            put(tape, tapeSize, (word >>> shift) & 255);
            tapeSize++;
        }
    }

    public int back(int n) {
        if (n < 0 || n > tapeSize) {
            return NONE;
        }
        tapeSize -= n;
        return tapeSize;
    }

    public int read() {
        reader.begin(tape, tapeSize);
        tapeSize = 0;
        reader.readTells();
        int fault = reader.finish();
        if (fault != 0) {
            faultPlace = reader.faultSpot;
            return fault;
        }
        faultPlace = NONE;
        Text latest = reader.text;
        reader.text = text;
        text = latest;
        today.begin(text);
        past.empty();
        told.size = 0;
        return 0;
    }

    public int place() {
        return faultPlace;
    }

    public int man(int man, int what) {
        if (!isMan(man)) {
            return NONE;
        }
        switch (what) {
            case 0:
                return at(today.x, man);
            case 1:
                return at(today.y, man);
            case 2:
                return at(today.lies, man);
            case 3:
                return today.left(text, man);
            case 4:
                return at(today.lost, man);
            case 5:
                return apart(at(today.x, man), at(today.y, man), at(text.doorX, man), at(text.doorY, man));
            case 6:
                return today.wants(text, man, today.minute);
            case 7:
                return at(text.dye, man);
            default:
                return NONE;
        }
    }

    public int piece(int man, int i, int what) {
        if (!isMan(man) || i < 0 || i >= at(today.lies, man)) {
            return NONE;
        }
        int piece = pieceOf(man, i);
        switch (what) {
            case 0:
                return at(today.ways, piece);
            case 1:
                return today.countUnder(piece);
            case 2:
                return today.countOn(at(today.streets, piece)) - today.countUnder(piece) - 1;
            default:
                return NONE;
        }
    }

    public boolean step(int man, int way) {
        if (!isMan(man) || !today.canLay(text, man, way)) {
            return false;
        }
        past.remember(today);
        today.lay(text, man, way);
        return true;
    }

    public boolean wind(int man) {
        if (!isMan(man) || !today.canTakeUp(man)) {
            return false;
        }
        past.remember(today);
        today.takeUp(man);
        return true;
    }

    public int home(int man) {
        if (!isMan(man) || !today.canTakeUp(man)) {
            return NONE;
        }
        past.remember(today);
        return today.takeUpAll(man);
    }

    public int cut(int man) {
        if (!isMan(man) || at(today.lost, man) != 0) {
            return NONE;
        }
        past.remember(today);
        return today.lose(man);
    }

    public int run(int n) {
        if (n < 0 || n > MINUTES) {
            return NONE;
        }
        if (n > 0) {
            past.remember(today);
        }
        for (int i = 0; i < n; i++) {
            today.goBy(text);
        }
        return today.minute;
    }

    public boolean undo() {
        return past.takeBack(today);
    }

    public int over(int man, int other) {
        return areTwo(man, other) ? today.countOver(man, other) : NONE;
    }

    public int waits(int man) {
        if (!isMan(man)) {
            return NONE;
        }
        ties.look(text, today);
        return at(ties.waitsFor, man);
    }

    public int orders() {
        ties.look(text, today);
        return ties.countOrders();
    }

    public int orderAt(int i) {
        if (i < 0) {
            return NONE;
        }
        ties.look(text, today);
        if (!ties.findOrder(0)) {
            return NOT_THERE;
        }
        return i < Integer.bitCount(ties.outside) ? at(ties.order, i) : NONE;
    }

    public int cuts(int what) {
        if (what < 0 || what > 2) {
            return NONE;
        }
        ties.look(text, today);
        int who = ties.fewestCuts(text, today);
        if (what == 2) {
            return who;
        }
        return what == 0 ? Integer.bitCount(who) : today.countLying(text, who);
    }

    public int way(int man) {
        if (!isMan(man)) {
            return NONE;
        }
        ways.prepare(text, man);
        return ways.fewest(text, man, at(text.doorX, man), at(text.doorY, man));
    }

    public int wayAt(int man, int i) {
        if (!isMan(man) || i < 0 || i >= at(text.errands, man)) {
            return NONE;
        }
        ways.prepare(text, man);
        ways.findOrder(text, man);
        return at(ways.order, i);
    }

    public int lives(int man) {
        if (!isMan(man)) {
            return NONE;
        }
        ways.prepare(text, man);
        return ways.countHomes(text, man);
    }

    public int turns(int man, int pillar) {
        if (!isMan(man) || pillar < 0 || pillar >= text.pillars) {
            return NO_TURNS;
        }
        return today.turnsAbout(man, at(text.pillarX, pillar), at(text.pillarY, pillar));
    }

    public int meet(int man, int other) {
        if (!areTwo(man, other)) {
            return NONE;
        }
        trial.copy(today);
        for (int i = 0; i <= MINUTES; i++) {
            if (trial.span(man, other) == 0) {
                return i;
            }
            trial.goBy(text);
        }
        return NOT_THERE;
    }

    public int most(int what) {
        if (what != 0 && what != 1) {
            return NONE;
        }
        int who = NOT_THERE;
        int most = NOT_THERE;
        for (int man = 0; man < text.men; man++) {
            int over = today.countOverOthers(man);
            if (over > most) {
                who = man;
                most = over;
            }
        }
        return what == 0 ? who : most;
    }

    public int street(int x, int y, int way, int i) {
        if (!text.hasStreet(x, y, way) || i < NONE) {
            return NONE;
        }
        int street = streetOf(x, y, way);
        int lying = today.countOn(street);
        if (i == NONE) {
            return lying;
        }
        return i < lying ? ownerOf(today.fromTop(street, lying - 1 - i)) : NONE;
    }

    public int dusk(int rule, int what) {
        if (rule < 0 || rule >= RULES || what < 0 || what > 3) {
            return NONE;
        }
        evening.pass(text, today, trial, rule);
        if (what == 0) {
            return evening.minutes;
        }
        if (what == 1) {
            return evening.wound;
        }
        return trial.whoseThreadLies(text, what == 3) & (what == 2 ? ~trial.lostBits(text) : -1);
    }

    public int bestDusk() {
        int best = 0;
        int bestWound = NONE;
        int bestMinutes = 0;
        for (int rule = 0; rule < RULES; rule++) {
            evening.pass(text, today, trial, rule);
            boolean more = evening.wound > bestWound;
            boolean sooner = evening.wound == bestWound && evening.minutes < bestMinutes;
            if (more || sooner) {
                best = rule;
                bestWound = evening.wound;
                bestMinutes = evening.minutes;
            }
        }
        return best;
    }

    public int shows(int x, int y, int way) {
        if (!text.hasStreet(x, y, way)) {
            return NONE;
        }
        int top = at(today.tops, streetOf(x, y, way));
        return top == 0 ? NOT_THERE : at(text.dye, ownerOf(top));
    }

    public int shown(int dye) {
        if (dye < 0 || dye > 9) {
            return NONE;
        }
        int streets = 0;
        for (int man = 0; man < text.men; man++) {
            if (at(text.dye, man) == dye) {
                streets += today.countTops(man);
            }
        }
        return streets;
    }

    public int uppermost(int man) {
        return isMan(man) ? today.countTops(man) : NONE;
    }

    public int knows(int man) {
        if (!isMan(man)) {
            return NONE;
        }
        ties.look(text, today);
        return at(ties.knows, man);
    }

    public int links(int man, int other) {
        if (!areTwo(man, other)) {
            return NONE;
        }
        ties.look(text, today);
        return ties.countLinks(man, other);
    }

    public int rounds() {
        ties.look(text, today);
        return ties.countRounds();
    }

    public int crowd(int what) {
        if (what != 0 && what != 1) {
            return NONE;
        }
        if (today.countLying(text, -1) == 0) {
            return NOT_THERE;
        }
        int corner = ties.mostCrowded(text, today);
        if (what == 1) {
            return Integer.bitCount(at(ties.visitors, corner));
        }
        return 100 * (corner / SIDE) + corner % SIDE;
    }

    public int plain(int what) {
        if (what != 0 && what != 1) {
            return NONE;
        }
        plainDay.choose(text, ways);
        return what == 0 ? plainDay.fewest : plainDay.choices;
    }

    public int thieves() {
        int who = 0;
        for (int man = 0; man < text.men; man++) {
            for (int i = 0; i < text.pillars; i++) {
                if (today.turnsAbout(man, at(text.pillarX, i), at(text.pillarY, i)) < 0) {
                    who |= 1 << man;
                }
            }
        }
        return who;
    }

    public int nearest(int man, int what) {
        if (!isMan(man) || (what != 0 && what != 1)) {
            return NONE;
        }
        int who = NOT_THERE;
        int far = FAR;
        for (int other = 0; other < text.men; other++) {
            int span = today.span(man, other);
            if (other != man && span < far) {
                who = other;
                far = span;
            }
        }
        return what == 0 || who == NOT_THERE ? who : far;
    }

    public int unfair() {
        if (text.men == 0) {
            return 0;
        }
        int most = 0;
        int fewest = FAR;
        for (int man = 0; man < text.men; man++) {
            int over = today.countOverOthers(man);
            most = Math.max(most, over);
            fewest = Math.min(fewest, over);
        }
        return most - fewest;
    }

    public int tell(int man, int other, boolean over) {
        return areTwo(man, other) ? told.add(man, other, over) : NONE;
    }

    public int forget() {
        int size = told.size;
        told.size = 0;
        return size;
    }

    public int starts(int m, int n, int k) {
        if (m < 0 || m > 3 || n < 0 || n > 40 || k < 0 || k > told.size) {
            return NONE;
        }
        return told.countRows(text, trial, m, n, k);
    }

    public boolean hold(int slot) {
        return past.keep(slot, today);
    }

    public boolean restore(int slot) {
        return past.goOnFrom(slot, today);
    }

    public int count(int what) {
        switch (what) {
            case 0:
                return text.men;
            case 1:
                return text.wide;
            case 2:
                return text.deep;
            case 3:
                return today.minute;
            case 4:
                return today.countLying(text, -1);
            case 5:
                return Integer.bitCount(today.lostBits(text));
            case 6:
                return text.pillars;
            case 7:
                return text.countErrands();
            case 8:
                return tapeSize;
            case 9:
                return past.size;
            case 10:
                return told.size;
            case 11:
                return past.countHeld();
            default:
                return NONE;
        }
    }

    private boolean isMan(int man) {
        return man >= 0 && man < text.men;
    }

    private boolean areTwo(int man, int other) {
        return isMan(man) && isMan(other) && man != other;
    }

    // Rows are looked at and changed by these two alone, so that no index is used untested.

    private static int at(int[] row, int i) {
        return i >= 0 && i < row.length ? row[i] : 0;
    }

    private static void put(int[] row, int i, int value) {
        if (i >= 0 && i < row.length) {
            row[i] = value;
        }
    }

    private static void copyRow(int[] from, int[] to) {
        System.arraycopy(from, 0, to, 0, Math.min(from.length, to.length));
    }

    private static int apart(int x, int y, int otherX, int otherY) {
        return Math.abs(x - otherX) + Math.abs(y - otherY);
    }

    /** The number of the STREET from a corner by a STEP; steps 1 and 3 are the odd ones. */
    private static int streetOf(int x, int y, int way) {
        int lesserX = way == 4 ? x - 1 : x;
        int lesserY = way == 3 ? y - 1 : y;
        return 2 * (lesserY * SIDE + lesserX) + (way & 1);
    }

    /** PIECES are numbered from 1 on, so that 0 is none. */
    private static int pieceOf(int man, int i) {
        return man * LONGEST + i + 1;
    }

    private static int ownerOf(int piece) {
        return (piece - 1) / LONGEST;
    }

    /** LOT n (n above 0) of a SEED and a which. */
    private static int lot(int n, int seed, int which) {
        int mixed = stir(stir(seed, 28), which) >>> 1;
        return n > 0 ? mixed % n : 0;
    }

    private static int stir(int hash, int with) {
        int mixed = (hash ^ with) * 1103515245 + 12345;
        return mixed ^ (mixed >>> 15);
    }

    /** The TOKENS of a tape: a kind (a SIGN's is its byte), a place and a number each. */
    private static final class Tokens {
        static final int END = 0;
        static final int BAD = 1;
        static final int NAME = 2;
        static final int INT = 3;
        static final int FIRST_WORD = 128;
        static final int TOWN = 128;
        static final int MAN = 129;
        static final int GOES = 130;
        static final int LONG = 131;
        static final int ERRAND = 132;
        static final int PILLAR = 133;
        static final int DYE = 134;
        static final int SEED = 135;
        static final int IF = 136;
        static final int THEN = 137;
        static final int ELSE = 138;
        static final int FIRST_VAR = 139;
        static final int LAST_VAR = 144;
        static final String WORDS =
            "town man goes long errand pillar dye seed if then else x y minute left lot rank ";
        static final String SIGNS = ";=+-*/<()";

        // One more than may be: the first that is too many has a place, too.
        final int[] kinds = new int[TOKENS + 2];
        final int[] places = new int[TOKENS + 2];
        final int[] numbers = new int[TOKENS + 2];
        private final long[] names = new long[TOKENS + 2];
        private final long[] words = new long[LAST_VAR - FIRST_WORD + 1];
        private int size;

        Tokens() {
            int word = 0;
            long letters = 0;
            for (int i = 0; i < WORDS.length(); i++) {
                if (WORDS.charAt(i) != ' ') {
                    letters = letters * 32 + (WORDS.charAt(i) - 'a' + 1);
                } else if (word < words.length) {
                    words[word] = letters;
                    word++;
                    letters = 0;
                }
            }
        }

        /** A NAME's letters as one number. */
        long nameAt(int i) {
            return i >= 0 && i < names.length ? names[i] : 0;
        }

        void split(int[] tape, int length) {
            size = 0;
            int next = 0;
            int kind = NAME;
            for (int i = 0; i <= TOKENS + 1 && kind > BAD; i++) {
                next = afterBlanks(tape, next, length);
                int end = tokenEnd(tape, next, length);
                kind = kindOf(tape, next, end);
                put(kinds, size, kind);
                put(places, size, next);
                size++;
                next = end;
            }
        }

        private static int afterBlanks(int[] tape, int from, int length) {
            int next = from;
            while (next < length && isBlank(at(tape, next))) {
                next++;
            }
            return next;
        }

        private static int tokenEnd(int[] tape, int from, int length) {
            int next = from;
            if (from < length && isLetter(at(tape, from))) {
                while (next < length && isLetter(at(tape, next))) {
                    next++;
                }
                return next;
            }
            if (from < length && isDigit(at(tape, from))) {
                while (next < length && isDigit(at(tape, next))) {
                    next++;
                }
                return next;
            }
            return from < length ? from + 1 : from;
        }

        private int kindOf(int[] tape, int from, int end) {
            int size = end - from;
            if (size <= 0) {
                return END;
            }
            int first = at(tape, from);
            if (isLetter(first)) {
                return size <= 8 ? wordKind(tape, from, end) : BAD;
            }
            if (isDigit(first)) {
                return size <= 4 ? intKind(tape, from, end) : BAD;
            }
            for (int i = 0; i < SIGNS.length(); i++) {
                if (SIGNS.charAt(i) == first) {
                    return first;
                }
            }
            return BAD;
        }

        private int wordKind(int[] tape, int from, int end) {
            long letters = 0;
            for (int i = from; i < end; i++) {
                letters = letters * 32 + (at(tape, i) - 'a' + 1);
            }
            if (size >= 0 && size < names.length) {
                names[size] = letters;
            }
            for (int i = 0; i < words.length; i++) {
                if (words[i] == letters) {
                    return FIRST_WORD + i;
                }
            }
            return NAME;
        }

        private int intKind(int[] tape, int from, int end) {
            int number = 0;
            for (int i = from; i < end; i++) {
                number = number * 10 + (at(tape, i) - '0');
            }
            put(numbers, size, number);
            return INT;
        }

        private static boolean isBlank(int sign) {
            return sign == 9 || sign == 10 || sign == 13 || sign == 32;
        }

        private static boolean isLetter(int sign) {
            return sign >= 'a' && sign <= 'z';
        }

        private static boolean isDigit(int sign) {
            return sign >= '0' && sign <= '9';
        }
    }

    /** Reads a tape into a Text of its own, or finds the first FAULT. */
    private static final class Reader {
        private static final int SYNTAX = 1;
        private static final int ROOM = 2;
        private static final int TWICE = 3;
        private static final int NO_NAME = 4;
        private static final int WRONG = 5;
        private static final int OUT = 6;
        private static final int IFS = 4;
        private static final int OPEN = 6;
        private static final int WAITING = 3 * OPEN + 2;

        Text text = new Text();
        int faultSpot;
        private final Tokens tokens = new Tokens();
        private int next;
        private int kind;
        private int spot;
        private int fault;
        // FAULTS 3 to 5 count only in a text without FAULTS 1 and 2.
        private int later;
        private int laterSpot;
        // The corners that must be in the TOWN; no TOKEN begins two.
        private final int[] cornerSpots = new int[TOKENS];
        private final int[] cornerXs = new int[TOKENS];
        private final int[] cornerYs = new int[TOKENS];
        private int corners;
        // The operators and ( of an E that wait for their right-hand side.
        private final int[] waiting = new int[WAITING];
        private int waitingSize;
        private int open;

        void begin(int[] tape, int size) {
            tokens.split(tape, size);
            text.clear();
            fault = 0;
            later = 0;
            corners = 0;
            next = 0;
            look();
        }

        void readTells() {
            for (int i = 0; i <= TOKENS && fault == 0 && kind != Tokens.END; i++) {
                switch (kind) {
                    case Tokens.TOWN:
                        take(kind);
                        text.wide = takeInt(2, SIDE);
                        text.deep = takeInt(2, SIDE);
                        break;
                    case Tokens.MAN:
                        readMan();
                        break;
                    case Tokens.GOES:
                        take(kind);
                        put(text.goes, takeMan(), readLaw());
                        break;
                    case Tokens.LONG:
                        take(kind);
                        text.longLaw = readLaw();
                        break;
                    case Tokens.ERRAND:
                        readErrand();
                        break;
                    case Tokens.PILLAR:
                        readPillar();
                        break;
                    case Tokens.DYE:
                        take(kind);
                        put(text.dye, takeMan(), takeInt(0, 9));
                        break;
                    case Tokens.SEED:
                        take(kind);
                        text.seed = takeInt(0, 9999);
                        break;
                    default:
                        fail(SYNTAX, spot);
                }
                take(';');
            }
        }

        /** The number of the FAULT, or 0: then the text can be gone by. */
        int finish() {
            if (fault == 0 && later != 0) {
                fail(later, laterSpot);
            }
            if (fault == 0) {
                findOutside();
            }
            if (fault == 0) {
                text.measure();
            }
            return fault;
        }

        private void findOutside() {
            for (int i = 0; i < corners; i++) {
                if (!text.hasCorner(at(cornerXs, i), at(cornerYs, i))) {
                    fail(OUT, at(cornerSpots, i));
                }
            }
        }

        private void look() {
            kind = at(tokens.kinds, next);
            spot = at(tokens.places, next);
        }

        private void fail(int number, int place) {
            if (fault == 0) {
                fault = number;
                faultSpot = place;
            }
        }

        private void failLater(int number, int place) {
            if (fault == 0 && later == 0) {
                later = number;
                laterSpot = place;
            }
        }

        private void take(int wanted) {
            if (kind != wanted) {
                fail(SYNTAX, spot);
            } else if (next >= TOKENS) {
                fail(ROOM, spot);
            } else if (fault == 0) {
                next++;
                look();
            }
        }

        private int takeInt(int least, int greatest) {
            int place = spot;
            int number = at(tokens.numbers, next);
            take(Tokens.INT);
            if (number < least || number > greatest) {
                failLater(WRONG, place);
            }
            return number;
        }

        private int takeMan() {
            int place = spot;
            int man = text.manNamed(tokens.nameAt(next));
            take(Tokens.NAME);
            if (man == NONE) {
                failLater(NO_NAME, place);
            }
            return man;
        }

        private void readMan() {
            if (text.men >= MEN) {
                fail(ROOM, spot);
            }
            take(Tokens.MAN);
            int place = spot;
            long name = tokens.nameAt(next);
            take(Tokens.NAME);
            if (text.manNamed(name) != NONE) {
                failLater(TWICE, place);
            }
            int corner = readCorner();
            if (fault == 0) {
                text.addMan(name, at(cornerXs, corner), at(cornerYs, corner));
            }
        }

        private void readErrand() {
            int place = spot;
            take(Tokens.ERRAND);
            // The seventh is found by its NAME, but stands where the errand begins.
            int named = kind == Tokens.NAME ? text.manNamed(tokens.nameAt(next)) : NONE;
            if (at(text.errands, named) >= ERRANDS) {
                fail(ROOM, place);
            }
            int man = takeMan();
            int corner = readCorner();
            if (fault == 0 && man != NONE) {
                text.addErrand(man, at(cornerXs, corner), at(cornerYs, corner));
            }
        }

        /** Two INTS as a corner that must be in the TOWN: its number among these. */
        private int readCorner() {
            int corner = corners;
            put(cornerSpots, corner, spot);
            put(cornerXs, corner, takeInt(0, SIDE - 1));
            put(cornerYs, corner, takeInt(0, SIDE - 1));
            corners++;
            return corner;
        }

        private void readPillar() {
            if (text.pillars >= PILLARS) {
                fail(ROOM, spot);
            }
            take(Tokens.PILLAR);
            int x = takeInt(0, SIDE - 2);
            int y = takeInt(0, SIDE - 2);
            if (fault == 0) {
                text.addPillar(x, y);
            }
        }

        /** A LAW: where its code begins. */
        private int readLaw() {
            Laws laws = text.laws;
            int start = laws.size;
            take('=');
            for (int ifs = 0; ifs <= IFS && fault == 0 && kind == Tokens.IF; ifs++) {
                if (ifs == IFS) {
                    fail(ROOM, spot);
                }
                take(Tokens.IF);
                readE();
                take('<');
                readE();
                int branch = laws.size;
                laws.add(Laws.UNLESS_LESS, 0);
                take(Tokens.THEN);
                readE();
                laws.add(Laws.STOP, 0);
                laws.aim(branch);
                take(Tokens.ELSE);
            }
            readE();
            laws.add(Laws.STOP, 0);
            return start;
        }

        private void readE() {
            waitingSize = 0;
            open = 0;
            boolean unitIsDue = true;
            boolean goesOn = true;
            for (int i = 0; i <= TOKENS && goesOn && fault == 0; i++) {
                if (unitIsDue) {
                    unitIsDue = readUnit();
                } else if (bindingOf(kind) > 0) {
                    readOperator();
                    unitIsDue = true;
                } else if (open > 0) {
                    readClosing();
                } else {
                    goesOn = false;
                }
            }
            release(1);
        }

        /** Whether a UNIT is still due: behind a ( one is. */
        private boolean readUnit() {
            if (kind == Tokens.INT) {
                text.laws.add(Laws.NUMBER, at(tokens.numbers, next));
                take(kind);
                return false;
            }
            if (kind >= Tokens.FIRST_VAR && kind <= Tokens.LAST_VAR) {
                text.laws.add(Laws.VAR, kind - Tokens.FIRST_VAR);
                take(kind);
                return false;
            }
            if (kind == '(' && open >= OPEN) {
                fail(ROOM, spot);
            }
            take('(');
            open++;
            lineUp('(');
            return true;
        }

        private void readOperator() {
            release(bindingOf(kind));
            lineUp(kind);
            take(kind);
        }

        private void readClosing() {
            take(')');
            release(1);
            waitingSize--;
            open--;
        }

        private void lineUp(int sign) {
            put(waiting, waitingSize, sign);
            waitingSize++;
        }

        /** Puts out the operators that wait and bind at least so much, down to a (. */
        private void release(int binding) {
            for (int i = waitingSize - 1; i >= 0 && bindingOf(at(waiting, i)) >= binding; i--) {
                text.laws.add(at(waiting, i), 0);
                waitingSize--;
            }
        }

        private static int bindingOf(int sign) {
            if (sign == '*' || sign == '/') {
                return 2;
            }
            return sign == '+' || sign == '-' ? 1 : 0;
        }
    }

    /** The LAWS of a text, as code for a stack: each operator behind what it works on. */
    private static final class Laws {
        static final int STOP = 0;
        static final int NUMBER = 1;
        static final int VAR = 2;
        static final int UNLESS_LESS = 3;
        private static final int STACK = 32;

        int size;
        private final int[] codes = new int[TOKENS + 1];
        private final int[] operands = new int[TOKENS + 1];
        private final int[] vars = new int[6];
        private final int[] stack = new int[STACK];

        void add(int code, int operand) {
            put(codes, size, code);
            put(operands, size, operand);
            size++;
        }

        /** A branch that does not hold goes on with what is added next. */
        void aim(int branch) {
            put(operands, branch, size);
        }

        int value(int start, int x, int y, int minute, int left, int lot, int rank) {
            put(vars, 0, x);
            put(vars, 1, y);
            put(vars, 2, minute);
            put(vars, 3, left);
            put(vars, 4, lot);
            put(vars, 5, rank);
            int next = start;
            int high = 0;
            for (int i = 0; i <= TOKENS; i++) {
                int code = at(codes, next);
                int operand = at(operands, next);
                next++;
                if (code == STOP) {
                    return at(stack, high - 1);
                }
                if (code == NUMBER || code == VAR) {
                    put(stack, high, code == NUMBER ? operand : at(vars, operand));
                    high++;
                    continue;
                }
                int first = at(stack, high - 2);
                int second = at(stack, high - 1);
                high -= 2;
                if (code == UNLESS_LESS) {
                    next = first < second ? next : operand;
                } else if (code == '/' && second == 0) {
                    return 0;
                } else {
                    put(stack, high, reckon(code, first, second));
                    high++;
                }
            }
            return 0;
        }

        private static int reckon(int sign, int first, int second) {
            switch (sign) {
                case '+':
                    return first + second;
                case '-':
                    return first - second;
                case '*':
                    return first * second;
                default:
                    return second == 0 ? 0 : first / second;
            }
        }
    }

    /** What a text tells: the TOWN and all that does not change through a day. */
    private static final class Text {
        int wide;
        int deep;
        int men;
        int pillars;
        int seed;
        int longLaw;
        final Laws laws = new Laws();
        final int[] doorX = new int[MEN];
        final int[] doorY = new int[MEN];
        final int[] goes = new int[MEN];
        final int[] longs = new int[MEN];
        final int[] dye = new int[MEN];
        final int[] errands = new int[MEN];
        final int[] errandX = new int[MEN * ERRANDS];
        final int[] errandY = new int[MEN * ERRANDS];
        final int[] pillarX = new int[PILLARS];
        final int[] pillarY = new int[PILLARS];
        private final long[] names = new long[MEN];

        Text() {
            wide = 6;
            deep = 6;
            longLaw = NONE;
        }

        void clear() {
            wide = 6;
            deep = 6;
            men = 0;
            pillars = 0;
            seed = 0;
            longLaw = NONE;
            laws.size = 0;
        }

        void addMan(long name, int x, int y) {
            if (men >= 0 && men < names.length) {
                names[men] = name;
                put(doorX, men, x);
                put(doorY, men, y);
                put(goes, men, NONE);
                put(dye, men, 0);
                put(errands, men, 0);
                men++;
            }
        }

        int manNamed(long name) {
            for (int man = 0; man < men && man < names.length; man++) {
                if (names[man] == name) {
                    return man;
                }
            }
            return NONE;
        }

        void addErrand(int man, int x, int y) {
            int i = man * ERRANDS + at(errands, man);
            put(errandX, i, x);
            put(errandY, i, y);
            put(errands, man, at(errands, man) + 1);
        }

        void addPillar(int x, int y) {
            put(pillarX, pillars, x);
            put(pillarY, pillars, y);
            pillars++;
        }

        /** How LONG the threads are: that hangs on nothing that changes. */
        void measure() {
            for (int man = 0; man < men; man++) {
                int told = longLaw == NONE ? 30
                    : laws.value(longLaw, at(doorX, man), at(doorY, man), 0, 0, 0, man);
                put(longs, man, Math.max(0, Math.min(LONGEST, told)));
            }
        }

        /** What GOES tells a MAN: 0 .. 5. */
        int goesAt(int man, int x, int y, int minute, int left) {
            int law = at(goes, man);
            if (law == NONE) {
                return 0;
            }
            int luck = lot(100, seed, 8 * minute + man);
            return Math.max(0, laws.value(law, x, y, minute, left, luck, man) % 6);
        }

        boolean hasCorner(int x, int y) {
            return x >= 0 && x < wide && y >= 0 && y < deep;
        }

        boolean hasStreet(int x, int y, int way) {
            return way >= 1 && way <= 4 && hasCorner(x, y)
                && hasCorner(x + at(STEP_X, way), y + at(STEP_Y, way));
        }

        int countErrands() {
            int all = 0;
            for (int man = 0; man < men; man++) {
                all += at(errands, man);
            }
            return all;
        }

        /** How far one of a MAN's errands is from a corner. */
        int errandFrom(int man, int i, int x, int y) {
            int errand = man * ERRANDS + i;
            return apart(x, y, at(errandX, errand), at(errandY, errand));
        }
    }

    /** How all stands at a minute: where the MEN are and which PIECES lie. */
    private static final class Day {
        int minute;
        final int[] x = new int[MEN];
        final int[] y = new int[MEN];
        final int[] lies = new int[MEN];
        final int[] lost = new int[MEN];
        /** Of each PIECE the STEP, the STREET, the PIECE next under it, and when it was laid. */
        final int[] ways = new int[PIECES + 1];
        final int[] streets = new int[PIECES + 1];
        final int[] unders = new int[PIECES + 1];
        final int[] whens = new int[PIECES + 1];
        /** Of each STREET the uppermost PIECE. */
        final int[] tops = new int[STREETS];
        private int laid;

        void begin(Text text) {
            minute = 0;
            laid = 0;
            copyRow(text.doorX, x);
            copyRow(text.doorY, y);
            Arrays.fill(lies, 0);
            Arrays.fill(lost, 0);
            Arrays.fill(tops, 0);
        }

        void copy(Day from) {
            minute = from.minute;
            laid = from.laid;
            copyRow(from.x, x);
            copyRow(from.y, y);
            copyRow(from.lies, lies);
            copyRow(from.lost, lost);
            copyRow(from.ways, ways);
            copyRow(from.streets, streets);
            copyRow(from.unders, unders);
            copyRow(from.whens, whens);
            copyRow(from.tops, tops);
        }

        int left(Text text, int man) {
            return at(text.longs, man) - at(lies, man);
        }

        boolean canLay(Text text, int man, int way) {
            return at(lost, man) == 0 && left(text, man) > 0
                && text.hasStreet(at(x, man), at(y, man), way);
        }

        void lay(Text text, int man, int way) {
            if (!canLay(text, man, way)) {
                return;
            }
            int piece = pieceOf(man, at(lies, man));
            int street = streetOf(at(x, man), at(y, man), way);
            laid++;
            put(ways, piece, way);
            put(streets, piece, street);
            put(unders, piece, at(tops, street));
            put(whens, piece, laid);
            put(tops, street, piece);
            put(lies, man, at(lies, man) + 1);
            put(x, man, at(x, man) + at(STEP_X, way));
            put(y, man, at(y, man) + at(STEP_Y, way));
        }

        /** A MAN's last PIECE; 0 if none lies. */
        int lastOf(int man) {
            int lying = at(lies, man);
            return lying > 0 ? pieceOf(man, lying - 1) : 0;
        }

        boolean canTakeUp(int man) {
            int piece = lastOf(man);
            return piece != 0 && at(lost, man) == 0 && at(tops, at(streets, piece)) == piece;
        }

        boolean takeUp(int man) {
            if (!canTakeUp(man)) {
                return false;
            }
            int piece = lastOf(man);
            int way = at(ways, piece);
            put(tops, at(streets, piece), at(unders, piece));
            put(lies, man, at(lies, man) - 1);
            put(x, man, at(x, man) - at(STEP_X, way));
            put(y, man, at(y, man) - at(STEP_Y, way));
            return true;
        }

        int takeUpAll(int man) {
            int up = 0;
            for (int i = 0; i < LONGEST && takeUp(man); i++) {
                up++;
            }
            return up;
        }

        int lose(int man) {
            int gone = at(lies, man);
            for (int i = gone - 1; i >= 0; i--) {
                pullOut(pieceOf(man, i));
            }
            put(lies, man, 0);
            put(lost, man, 1);
            return gone;
        }

        private void pullOut(int piece) {
            int street = at(streets, piece);
            int above = at(tops, street);
            if (above == piece) {
                put(tops, street, at(unders, piece));
                return;
            }
            for (int i = 0; i < PIECES && above != 0 && at(unders, above) != piece; i++) {
                above = at(unders, above);
            }
            put(unders, above, at(unders, piece));
        }

        /** What a MAN would do at a minute, whether he can or not. */
        int wants(Text text, int man, int hisMinute) {
            if (at(lost, man) != 0) {
                return 0;
            }
            return text.goesAt(man, at(x, man), at(y, man), hisMinute, left(text, man));
        }

        void act(Text text, int man, int hisMinute) {
            int wanted = wants(text, man, hisMinute);
            if (wanted == 5) {
                takeUp(man);
            } else if (wanted > 0) {
                lay(text, man, wanted);
            }
        }

        void goBy(Text text) {
            for (int man = 0; man < text.men; man++) {
                act(text, man, minute);
            }
            minute++;
        }

        int countUnder(int piece) {
            int under = 0;
            int next = at(unders, piece);
            for (int i = 0; i < PIECES && next != 0; i++) {
                under++;
                next = at(unders, next);
            }
            return under;
        }

        int countOn(int street) {
            int top = at(tops, street);
            return top == 0 ? 0 : countUnder(top) + 1;
        }

        int fromTop(int street, int down) {
            int piece = at(tops, street);
            for (int i = 0; i < down && i < PIECES; i++) {
                piece = at(unders, piece);
            }
            return piece;
        }

        int countTops(int man) {
            int streets = 0;
            for (int i = 0; i < STREETS; i++) {
                int top = at(tops, i);
                if (top != 0 && ownerOf(top) == man) {
                    streets++;
                }
            }
            return streets;
        }

        int countOver(int man, int other) {
            int over = 0;
            for (int i = 0; i < at(lies, man); i++) {
                int next = at(unders, pieceOf(man, i));
                for (int j = 0; j < PIECES && next != 0; j++) {
                    over += ownerOf(next) == other ? 1 : 0;
                    next = at(unders, next);
                }
            }
            return over;
        }

        int countOverOthers(int man) {
            int over = 0;
            for (int other = 0; other < MEN; other++) {
                over += other == man ? 0 : countOver(man, other);
            }
            return over;
        }

        /** How many PIECES of MEN (bits) lie. */
        int countLying(Text text, int who) {
            int lying = 0;
            for (int man = 0; man < text.men; man++) {
                lying += ((who >> man) & 1) != 0 ? at(lies, man) : 0;
            }
            return lying;
        }

        /** The MEN (bits) of whose threads some PIECE lies, or of whose none does. */
        int whoseThreadLies(Text text, boolean some) {
            int who = 0;
            for (int man = 0; man < text.men; man++) {
                if ((at(lies, man) > 0) == some) {
                    who |= 1 << man;
                }
            }
            return who;
        }

        int lostBits(Text text) {
            int who = 0;
            for (int man = 0; man < text.men; man++) {
                who |= at(lost, man) << man;
            }
            return who;
        }

        int span(int man, int other) {
            return apart(at(x, man), at(y, man), at(x, other), at(y, other));
        }

        int turnsAbout(int man, int pillarX, int pillarY) {
            int turns = 0;
            for (int i = 0; i < at(lies, man); i++) {
                int piece = pieceOf(man, i);
                int way = at(ways, piece);
                int corner = at(streets, piece) / 2;
                if ((way & 1) != 0 && corner % SIDE > pillarX && corner / SIDE == pillarY) {
                    turns += way == 1 ? 1 : -1;
                }
            }
            return turns;
        }
    }

    /** What can be undone, and what the SLOTS hold. */
    private static final class Past {
        int size;
        private final Day[] kept = new Day[UNDOS];
        private final Day[] slots = new Day[SLOTS];
        private final int[] held = new int[SLOTS];
        private int next;

        Past() {
            for (int i = 0; i < kept.length; i++) {
                kept[i] = new Day();
            }
            for (int i = 0; i < slots.length; i++) {
                slots[i] = new Day();
            }
        }

        void empty() {
            size = 0;
            Arrays.fill(held, 0);
        }

        void remember(Day day) {
            Day free = next >= 0 && next < kept.length ? kept[next] : null;
            if (free != null) {
                free.copy(day);
                next = next + 1 < UNDOS ? next + 1 : 0;
                size = Math.min(size + 1, UNDOS);
            }
        }

        boolean takeBack(Day day) {
            int last = next > 0 ? next - 1 : UNDOS - 1;
            Day ahead = size > 0 && last >= 0 && last < kept.length ? kept[last] : null;
            if (ahead == null) {
                return false;
            }
            day.copy(ahead);
            next = last;
            size--;
            return true;
        }

        private Day slotAt(int slot) {
            return slot >= 0 && slot < slots.length ? slots[slot] : null;
        }

        boolean keep(int slot, Day day) {
            Day free = slotAt(slot);
            if (free == null) {
                return false;
            }
            free.copy(day);
            put(held, slot, 1);
            return true;
        }

        boolean goOnFrom(int slot, Day day) {
            Day full = slotAt(slot);
            if (full == null || at(held, slot) == 0) {
                return false;
            }
            day.copy(full);
            size = 0;
            return true;
        }

        int countHeld() {
            int slotsHeld = 0;
            for (int i = 0; i < SLOTS; i++) {
                slotsHeld += at(held, i);
            }
            return slotsHeld;
        }
    }

    /** Who WAITS for whom and who KNOWS whom (bits), with what follows from it. */
    private static final class Ties {
        final int[] waitsFor = new int[MEN];
        final int[] knows = new int[MEN];
        final int[] order = new int[MEN];
        /** The MEN (bits) whose threads lie. */
        int outside;
        final int[] visitors = new int[CORNERS];
        private final int[] orders = new int[1 << MEN];

        void look(Text text, Day day) {
            outside = day.whoseThreadLies(text, true);
            Arrays.fill(waitsFor, 0);
            Arrays.fill(knows, 0);
            for (int street = 0; street < STREETS; street++) {
                lookAt(day, at(day.tops, street));
            }
        }

        private void lookAt(Day day, int top) {
            int above = 0;
            int piece = top;
            for (int i = 0; i < PIECES && piece != 0; i++) {
                int man = ownerOf(piece);
                int others = above & ~(1 << man);
                put(waitsFor, man, at(waitsFor, man) | others);
                above |= 1 << man;
                piece = at(day.unders, piece);
            }
            for (int man = 0; man < MEN; man++) {
                if (((above >> man) & 1) != 0) {
                    put(knows, man, at(knows, man) | (above & ~(1 << man)));
                }
            }
        }

        /** How many ORDERS: told for each set of MEN that are home from those with one less. */
        int countOrders() {
            Arrays.fill(orders, 0);
            put(orders, 0, 1);
            for (int home = 0; home < orders.length; home++) {
                for (int man = 0; man < MEN; man++) {
                    int with = home | (1 << man);
                    boolean out = (outside & ~home & (1 << man)) != 0;
                    if (out && (at(waitsFor, man) & ~home) == 0) {
                        put(orders, with, at(orders, with) + at(orders, home));
                    }
                }
            }
            return at(orders, outside);
        }

        /** Whether there is an ORDER once the threads of some (bits) are CUT: the first one. */
        boolean findOrder(int cut) {
            int out = outside & ~cut;
            for (int i = 0; i < MEN && out != 0; i++) {
                int first = firstFree(out);
                if (first == NONE) {
                    return false;
                }
                put(order, i, first);
                out &= ~(1 << first);
            }
            return true;
        }

        private int firstFree(int out) {
            for (int man = 0; man < MEN; man++) {
                if (((out >> man) & 1) != 0 && (at(waitsFor, man) & out) == 0) {
                    return man;
                }
            }
            return NONE;
        }

        int fewestCuts(Text text, Day day) {
            int best = outside;
            for (int who = 0; who < 1 << MEN; who++) {
                if ((who & ~outside) == 0 && findOrder(who) && isLess(text, day, who, best)) {
                    best = who;
                }
            }
            return best;
        }

        /** Of alike ones the least bits come first anyhow: they are tried first. */
        private static boolean isLess(Text text, Day day, int who, int than) {
            int fewer = Integer.bitCount(who) - Integer.bitCount(than);
            if (fewer == 0) {
                fewer = day.countLying(text, who) - day.countLying(text, than);
            }
            return fewer < 0;
        }

        /** All (bits) whom these (bits) know, and these. */
        private int widened(int group) {
            int wider = group;
            for (int man = 0; man < MEN; man++) {
                if (((group >> man) & 1) != 0) {
                    wider |= at(knows, man);
                }
            }
            return wider;
        }

        int countLinks(int man, int other) {
            int group = 1 << man;
            for (int links = 1; links < MEN; links++) {
                group = widened(group);
                if (((group >> other) & 1) != 0) {
                    return links;
                }
            }
            return NOT_THERE;
        }

        int countRounds() {
            int rounds = 0;
            int grouped = 0;
            for (int man = 0; man < MEN; man++) {
                if ((outside & ~grouped & (1 << man)) != 0) {
                    rounds++;
                    grouped |= 1 << man;
                    for (int i = 0; i < MEN; i++) {
                        grouped = widened(grouped);
                    }
                }
            }
            return rounds;
        }

        /** The corner (y * SIDE + x) to which threads of most MEN come, and who comes where. */
        int mostCrowded(Text text, Day day) {
            Arrays.fill(visitors, 0);
            for (int man = 0; man < text.men; man++) {
                if (at(day.lies, man) > 0) {
                    visit(text, day, man);
                }
            }
            int best = 0;
            for (int corner = 1; corner < CORNERS; corner++) {
                if (Integer.bitCount(at(visitors, corner)) > Integer.bitCount(at(visitors, best))) {
                    best = corner;
                }
            }
            return best;
        }

        private void visit(Text text, Day day, int man) {
            int corner = at(text.doorY, man) * SIDE + at(text.doorX, man);
            put(visitors, corner, at(visitors, corner) | (1 << man));
            for (int i = 0; i < at(day.lies, man); i++) {
                int way = at(day.ways, pieceOf(man, i));
                corner += at(STEP_Y, way) * SIDE + at(STEP_X, way);
                put(visitors, corner, at(visitors, corner) | (1 << man));
            }
        }
    }

    /** WAYS by all ERRANDS of a MAN. */
    private static final class Ways {
        final int[] order = new int[ERRANDS];
        /** For a set of errands (bits) and the first of them: the PIECES from that by the others. */
        private final int[] rest = new int[(1 << ERRANDS) * ERRANDS];

        void prepare(Text text, int man) {
            int all = at(text.errands, man);
            for (int set = 1; set < 1 << ERRANDS && set < 1 << all; set++) {
                for (int first = 0; first < all; first++) {
                    int others = set & ~(1 << first);
                    if (others != set) {
                        int x = at(text.errandX, man * ERRANDS + first);
                        int y = at(text.errandY, man * ERRANDS + first);
                        put(rest, set * ERRANDS + first, cheapest(text, man, others, x, y));
                    }
                }
            }
        }

        /** The errand to go to first from a corner, of a set (bits); NONE if it is empty. */
        private int nextOf(Text text, int man, int set, int x, int y) {
            int best = NONE;
            int fewest = FAR;
            for (int i = 0; i < ERRANDS; i++) {
                int cost = text.errandFrom(man, i, x, y) + at(rest, set * ERRANDS + i);
                if (((set >> i) & 1) != 0 && cost < fewest) {
                    best = i;
                    fewest = cost;
                }
            }
            return best;
        }

        /** The fewest PIECES from a corner by a set of errands (bits). */
        private int cheapest(Text text, int man, int set, int x, int y) {
            int next = nextOf(text, man, set, x, y);
            return next == NONE ? 0 : text.errandFrom(man, next, x, y) + at(rest, set * ERRANDS + next);
        }

        int fewest(Text text, int man, int x, int y) {
            return cheapest(text, man, (1 << at(text.errands, man)) - 1, x, y);
        }

        void findOrder(Text text, int man) {
            int x = at(text.doorX, man);
            int y = at(text.doorY, man);
            int left = (1 << at(text.errands, man)) - 1;
            for (int i = 0; i < ERRANDS && left != 0; i++) {
                int next = nextOf(text, man, left, x, y);
                put(order, i, next);
                left &= ~(1 << next);
                x = at(text.errandX, man * ERRANDS + next);
                y = at(text.errandY, man * ERRANDS + next);
            }
        }

        int countHomes(Text text, int man) {
            int homes = 0;
            for (int corner = 0; corner < CORNERS; corner++) {
                int x = corner % SIDE;
                int y = corner / SIDE;
                if (text.hasCorner(x, y) && fewest(text, man, x, y) <= at(text.longs, man)) {
                    homes++;
                }
            }
            return homes;
        }
    }

    /** A PLAIN DAY: each MAN by his ERRANDS, each leg first by x (0) or first by y (1). */
    private static final class Plain {
        int fewest;
        int choices;
        /** For each MAN and choice, how many PIECES on each STREET. */
        private final int[] laid = new int[2 * MEN * STREETS];
        /** For each two MEN and choices, how many times their PIECES lie on one another. */
        private final int[] meetings = new int[4 * MEN * MEN];

        void choose(Text text, Ways ways) {
            Arrays.fill(laid, 0);
            for (int man = 0; man < text.men; man++) {
                ways.prepare(text, man);
                ways.findOrder(text, man);
                walk(text, ways, man, 0);
                walk(text, ways, man, 1);
            }
            for (int one = 0; one < 2 * text.men; one++) {
                for (int two = 0; two < one; two++) {
                    put(meetings, one * 2 * MEN + two, countMeetings(one, two));
                }
            }
            fewest = FAR;
            for (int bits = 0; bits < 1 << MEN && bits < 1 << text.men; bits++) {
                int times = countAll(text.men, bits);
                if (times < fewest) {
                    fewest = times;
                    choices = bits;
                }
            }
        }

        private void walk(Text text, Ways ways, int man, int choice) {
            int x = at(text.doorX, man);
            int y = at(text.doorY, man);
            int row = (2 * man + choice) * STREETS;
            for (int i = 0; i < at(text.errands, man); i++) {
                int errand = man * ERRANDS + at(ways.order, i);
                int toX = at(text.errandX, errand);
                int toY = at(text.errandY, errand);
                // By x at the y of one end, by y at the x of the other end.
                layAlongX(row, choice == 0 ? y : toY, Math.min(x, toX), Math.max(x, toX));
                layAlongY(row, choice == 0 ? toX : x, Math.min(y, toY), Math.max(y, toY));
                x = toX;
                y = toY;
            }
        }

        private void layAlongX(int row, int y, int from, int to) {
            for (int x = from; x < to && x < SIDE; x++) {
                int i = row + streetOf(x, y, 2);
                put(laid, i, at(laid, i) + 1);
            }
        }

        private void layAlongY(int row, int x, int from, int to) {
            for (int y = from; y < to && y < SIDE; y++) {
                int i = row + streetOf(x, y, 1);
                put(laid, i, at(laid, i) + 1);
            }
        }

        private int countMeetings(int one, int two) {
            int times = 0;
            for (int street = 0; street < STREETS; street++) {
                times += at(laid, one * STREETS + street) * at(laid, two * STREETS + street);
            }
            return times;
        }

        private int countAll(int men, int bits) {
            int times = 0;
            for (int man = 0; man < men; man++) {
                int one = 2 * man + ((bits >> man) & 1);
                for (int other = 0; other < man; other++) {
                    int two = 2 * other + ((bits >> other) & 1);
                    times += at(meetings, one * 2 * MEN + two);
                }
            }
            return times;
        }
    }

    /** DUSK by a RULE, passed on a Day that is given for it. */
    private static final class Evening {
        int minutes;
        int wound;
        private final int[] wishes = new int[MEN];

        void pass(Text text, Day now, Day trial, int rule) {
            trial.copy(now);
            minutes = 0;
            wound = 0;
            boolean goesOn = true;
            for (int i = 0; i <= PIECES && goesOn; i++) {
                for (int man = 0; man < text.men; man++) {
                    put(wishes, man, wishOf(text, trial, rule, man));
                }
                int up = windOnce(text, trial);
                goesOn = up > 0;
                minutes += goesOn ? 1 : 0;
                wound += up;
            }
        }

        /** What tells who comes first: he for whom it is greatest. */
        private int wishOf(Text text, Day trial, int rule, int man) {
            switch (rule) {
                case 1:
                    return at(trial.lies, man);
                case 2:
                    return trial.left(text, man);
                case 3:
                    return at(trial.whens, trial.lastOf(man));
                case 4:
                    return lot(1000, text.seed, 2000 + 8 * (trial.minute + minutes) + man);
                default:
                    return 0;
            }
        }

        private int windOnce(Text text, Day trial) {
            int up = 0;
            int done = 0;
            for (int i = 0; i < text.men; i++) {
                int next = greatest(text, done);
                done |= 1 << next;
                up += trial.takeUp(next) ? 1 : 0;
            }
            return up;
        }

        private int greatest(Text text, int done) {
            int best = 0;
            int most = NONE;
            for (int man = 0; man < text.men; man++) {
                if (((done >> man) & 1) == 0 && at(wishes, man) > most) {
                    best = man;
                    most = at(wishes, man);
                }
            }
            return best;
        }
    }

    /** What is TOLD, and the STARTS that fit it. */
    private static final class Told {
        int size;
        private final int[] men = new int[TELLINGS];
        private final int[] others = new int[TELLINGS];
        private final int[] overs = new int[TELLINGS];
        private final int[] row = new int[MEN];

        int add(int man, int other, boolean over) {
            if (size >= TELLINGS) {
                return NONE;
            }
            put(men, size, man);
            put(others, size, other);
            put(overs, size, over ? 1 : 0);
            size++;
            return size - 1;
        }

        int countRows(Text text, Day trial, int latest, int minutes, int known) {
            int rows = 1;
            for (int man = 0; man < text.men; man++) {
                rows *= latest + 1;
            }
            if (rows > START_ROWS) {
                return NOT_THERE;
            }
            if (known == 0) {
                return rows;
            }
            int fitting = 0;
            Arrays.fill(row, 0);
            for (int i = 0; i < rows && i < START_ROWS; i++) {
                play(text, trial, minutes);
                fitting += fits(trial, known) ? 1 : 0;
                advance(text.men, latest);
            }
            return fitting;
        }

        private void play(Text text, Day trial, int minutes) {
            trial.begin(text);
            for (int minute = 0; minute < minutes; minute++) {
                for (int man = 0; man < text.men; man++) {
                    if (minute >= at(row, man)) {
                        trial.act(text, man, minute - at(row, man));
                    }
                }
            }
        }

        private boolean fits(Day trial, int known) {
            for (int i = 0; i < known; i++) {
                boolean over = trial.countOver(at(men, i), at(others, i)) > 0;
                if (over != (at(overs, i) != 0)) {
                    return false;
                }
            }
            return true;
        }

        /** The next row of STARTS, as a counter's wheels go on. */
        private void advance(int allMen, int latest) {
            for (int man = 0; man < allMen; man++) {
                if (at(row, man) < latest) {
                    put(row, man, at(row, man) + 1);
                    return;
                }
                put(row, man, 0);
            }
        }
    }
}
