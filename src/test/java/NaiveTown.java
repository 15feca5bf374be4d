import java.util.ArrayList;
import java.util.HashMap;
import java.util.HashSet;
import java.util.List;
import java.util.Map;
import java.util.Set;

/** The document's answers got the plainest way, to be held against ThreadTown's. */
final class NaiveTown {
    /** A PIECE: whose, by which STEP, from where to where. All that lie stand in one list, as laid. */
    static final class Piece {
        int man;
        int way;
        int fromX;
        int fromY;
        int toX;
        int toY;
        private String street;

        String street() {
            if (street == null) {
                street = (Math.min(fromX, toX) + "," + Math.min(fromY, toY) + "," + (fromX == toX)).intern();
            }
            return street;
        }
    }

    static final class State {
        int minute;
        int[] x;
        int[] y;
        boolean[] lost;
        List<Piece> pieces = new ArrayList<>();

        State copy() {
            State other = new State();
            other.minute = minute;
            other.x = x.clone();
            other.y = y.clone();
            other.lost = lost.clone();
            other.pieces = new ArrayList<>(pieces);
            return other;
        }
    }

    private static final int[] DX = {0, 0, 1, 0, -1};
    private static final int[] DY = {0, 1, 0, -1, 0};

    private StringBuilder tape = new StringBuilder();
    private int place = -1;
    private NaiveText text = new NaiveText("");
    private State now;
    private final List<State> undos = new ArrayList<>();
    private final State[] slots = new State[3];
    private final List<int[]> told = new ArrayList<>();

    NaiveTown() {
        now = morning();
    }

    private int men() {
        return text.men.size();
    }

    private State morning() {
        State state = new State();
        state.x = new int[men()];
        state.y = new int[men()];
        state.lost = new boolean[men()];
        for (int i = 0; i < men(); i++) {
            state.x[i] = text.men.get(i).x;
            state.y[i] = text.men.get(i).y;
        }
        return state;
    }

    private boolean no(int man) {
        return man < 0 || man >= men();
    }

    private boolean no(int man, int other) {
        return no(man) || no(other) || man == other;
    }

    private boolean inTown(int x, int y) {
        return x >= 0 && y >= 0 && x < text.wide && y < text.deep;
    }

    private List<Piece> of(State s, int man) {
        List<Piece> his = new ArrayList<>();
        for (Piece piece : s.pieces) {
            if (piece.man == man) {
                his.add(piece);
            }
        }
        return his;
    }

    private List<Piece> on(State s, String street) {
        List<Piece> there = new ArrayList<>();
        for (Piece piece : s.pieces) {
            if (piece.street().equals(street)) {
                there.add(piece);
            }
        }
        return there;
    }

    private int left(State s, int man) {
        return text.men.get(man).longs - of(s, man).size();
    }

    private boolean doStep(State s, int man, int way) {
        if (way < 1 || way > 4 || s.lost[man] || left(s, man) <= 0
            || !inTown(s.x[man] + DX[way], s.y[man] + DY[way])) {
            return false;
        }
        layAnyhow(s, man, way);
        return true;
    }

    private boolean doWind(State s, int man) {
        List<Piece> his = of(s, man);
        if (his.isEmpty() || s.lost[man]) {
            return false;
        }
        Piece last = his.get(his.size() - 1);
        List<Piece> there = on(s, last.street());
        if (there.get(there.size() - 1) != last) {
            return false;
        }
        s.pieces.remove(last);
        s.x[man] = last.fromX;
        s.y[man] = last.fromY;
        return true;
    }

    static int lot(int n, int seed, int which) {
        int h = seed;
        for (int value : new int[] {28, which}) {
            h ^= value;
            h = h * 1103515245 + 12345;
            h ^= h >>> 15;
        }
        return (h >>> 1) % n;
    }

    private int wants(State s, int man, int minute) {
        NaiveText.Law law = text.men.get(man).goes;
        if (s.lost[man] || law == null) {
            return 0;
        }
        Map<String, Integer> vars = new HashMap<>();
        vars.put("x", s.x[man]);
        vars.put("y", s.y[man]);
        vars.put("minute", minute);
        vars.put("left", left(s, man));
        vars.put("lot", lot(100, text.seed, 8 * minute + man));
        vars.put("rank", man);
        int rest = law.value(vars) % 6;
        return rest < 0 ? 0 : rest;
    }

    private void act(State s, int man, int minute) {
        int wanted = wants(s, man, minute);
        if (wanted == 5) {
            doWind(s, man);
        } else if (wanted > 0) {
            doStep(s, man, wanted);
        }
    }

    private void minute(State s) {
        for (int i = 0; i < men(); i++) {
            act(s, i, s.minute);
        }
        s.minute++;
    }

    private void keep() {
        undos.add(now.copy());
        if (undos.size() > 30) {
            undos.remove(0);
        }
    }

    int feed(int a, int b, int c, int d, int e) {
        if (tape.length() > 1980) {
            return -1;
        }
        for (int word : new int[] {a, b, c, d, e}) {
            for (int i = 3; i >= 0; i--) {
                tape.append((char) (word >> 8 * i & 255));
            }
        }
        return tape.length();
    }

    int back(int n) {
        if (n < 0 || n > tape.length()) {
            return -1;
        }
        tape.setLength(tape.length() - n);
        return tape.length();
    }

    int read() {
        String all = tape.toString();
        tape = new StringBuilder();
        try {
            text = new NaiveText(all);
        } catch (NaiveText.Fault fault) {
            place = fault.place;
            return fault.number;
        }
        place = -1;
        now = morning();
        undos.clear();
        told.clear();
        for (int i = 0; i < 3; i++) {
            slots[i] = null;
        }
        return 0;
    }

    int place() {
        return place;
    }

    int man(int man, int what) {
        if (no(man) || what < 0 || what > 7) {
            return -1;
        }
        NaiveText.Man his = text.men.get(man);
        int[] all = {now.x[man], now.y[man], of(now, man).size(), left(now, man), now.lost[man] ? 1 : 0,
            Math.abs(now.x[man] - his.x) + Math.abs(now.y[man] - his.y), wants(now, man, now.minute), his.dye};
        return all[what];
    }

    int piece(int man, int i, int what) {
        if (no(man) || i < 0 || i >= of(now, man).size() || what < 0 || what > 2) {
            return -1;
        }
        Piece piece = of(now, man).get(i);
        List<Piece> there = on(now, piece.street());
        int[] all = {piece.way, there.indexOf(piece), there.size() - 1 - there.indexOf(piece)};
        return all[what];
    }

    boolean step(int man, int way) {
        if (no(man) || !doStep(now.copy(), man, way)) {
            return false;
        }
        keep();
        return doStep(now, man, way);
    }

    boolean wind(int man) {
        if (no(man) || !doWind(now.copy(), man)) {
            return false;
        }
        keep();
        return doWind(now, man);
    }

    int home(int man) {
        if (no(man) || !doWind(now.copy(), man)) {
            return -1;
        }
        keep();
        int up = 0;
        while (doWind(now, man)) {
            up++;
        }
        return up;
    }

    int cut(int man) {
        if (no(man) || now.lost[man]) {
            return -1;
        }
        keep();
        int gone = of(now, man).size();
        now.pieces.removeAll(of(now, man));
        now.lost[man] = true;
        return gone;
    }

    int run(int n) {
        if (n < 0 || n > 200) {
            return -1;
        }
        if (n > 0) {
            keep();
        }
        for (int i = 0; i < n; i++) {
            minute(now);
        }
        return now.minute;
    }

    boolean undo() {
        if (undos.isEmpty()) {
            return false;
        }
        now = undos.remove(undos.size() - 1);
        return true;
    }

    private int overIn(State s, int man, int other) {
        int count = 0;
        for (int i = 0; i < s.pieces.size(); i++) {
            for (int j = 0; j < i; j++) {
                Piece upper = s.pieces.get(i);
                Piece lower = s.pieces.get(j);
                if (upper.man == man && lower.man == other && upper.street().equals(lower.street())) {
                    count++;
                }
            }
        }
        return count;
    }

    int over(int man, int other) {
        return no(man, other) ? -1 : overIn(now, man, other);
    }

    int waits(int man) {
        if (no(man)) {
            return -1;
        }
        int bits = 0;
        for (int other = 0; other < men(); other++) {
            if (other != man && overIn(now, other, man) > 0) {
                bits |= 1 << other;
            }
        }
        return bits;
    }

    private List<Integer> lying(State s) {
        List<Integer> all = new ArrayList<>();
        for (int i = 0; i < men(); i++) {
            if (!of(s, i).isEmpty()) {
                all.add(i);
            }
        }
        return all;
    }

    private static void permute(List<Integer> done, List<Integer> rest, List<List<Integer>> all) {
        if (rest.isEmpty()) {
            all.add(new ArrayList<>(done));
        }
        for (int i = 0; i < rest.size(); i++) {
            List<Integer> others = new ArrayList<>(rest);
            done.add(others.remove(i));
            permute(done, others, all);
            done.remove(done.size() - 1);
        }
    }

    /** Tried out: each order in which all who go home really take up all their PIECES. */
    private List<List<Integer>> allOrders(State s) {
        int[] waiting = new int[men()];
        for (int man : lying(s)) {
            for (int other : lying(s)) {
                if (man != other && overIn(s, other, man) > 0) {
                    waiting[man] |= 1 << other;
                }
            }
        }
        List<List<Integer>> all = new ArrayList<>();
        permute(new ArrayList<>(), lying(s), all);
        List<List<Integer>> good = new ArrayList<>();
        for (List<Integer> order : all) {
            int home = 0;
            boolean fits = true;
            for (int man : order) {
                fits &= (waiting[man] & ~home) == 0;
                home |= 1 << man;
            }
            if (fits) {
                good.add(order);
            }
        }
        return good;
    }

    int orders() {
        return allOrders(now).size();
    }

    int orderAt(int i) {
        if (i < 0) {
            return -1;
        }
        List<List<Integer>> all = allOrders(now);
        if (all.isEmpty()) {
            return -2;
        }
        return i < all.get(0).size() ? all.get(0).get(i) : -1;
    }

    /** Whether all get home who are left, each as far as he can, again and again. */
    private boolean allGetHome(State s, int cut) {
        State then = s.copy();
        then.pieces.removeIf(piece -> (cut >> piece.man & 1) != 0);
        for (int round = 0; round < 7; round++) {
            for (int man = 0; man < men(); man++) {
                State tried = then.copy();
                while (doWind(tried, man)) {
                    continue;
                }
                if (of(tried, man).isEmpty()) {
                    then = tried;
                }
            }
        }
        return then.pieces.isEmpty();
    }

    int cuts(int what) {
        if (what < 0 || what > 2) {
            return -1;
        }
        int[] best = null;
        for (int who = 0; who < 1 << men(); who++) {
            int pieces = 0;
            for (Piece piece : now.pieces) {
                pieces += who >> piece.man & 1;
            }
            int[] row = {Integer.bitCount(who), pieces, who};
            boolean less = best == null || row[0] < best[0] || (row[0] == best[0] && row[1] < best[1]);
            if (less && allGetHome(now, who)) {
                best = row;
            }
        }
        return best[what];
    }

    private int lengthBy(int man, List<Integer> order, int x, int y) {
        int length = 0;
        for (int i : order) {
            int[] errand = text.men.get(man).errands.get(i);
            length += Math.abs(errand[0] - x) + Math.abs(errand[1] - y);
            x = errand[0];
            y = errand[1];
        }
        return length;
    }

    private List<List<Integer>> errandOrders(int man) {
        List<Integer> all = new ArrayList<>();
        for (int i = 0; i < text.men.get(man).errands.size(); i++) {
            all.add(i);
        }
        List<List<Integer>> orders = new ArrayList<>();
        permute(new ArrayList<>(), all, orders);
        return orders;
    }

    private List<Integer> bestWay(int man, int x, int y) {
        List<Integer> best = null;
        for (List<Integer> order : errandOrders(man)) {
            if (best == null || lengthBy(man, order, x, y) < lengthBy(man, best, x, y)) {
                best = order;
            }
        }
        return best;
    }

    int way(int man) {
        if (no(man)) {
            return -1;
        }
        NaiveText.Man his = text.men.get(man);
        return lengthBy(man, bestWay(man, his.x, his.y), his.x, his.y);
    }

    int wayAt(int man, int i) {
        if (no(man) || i < 0 || i >= text.men.get(man).errands.size()) {
            return -1;
        }
        return bestWay(man, text.men.get(man).x, text.men.get(man).y).get(i);
    }

    int lives(int man) {
        if (no(man)) {
            return -1;
        }
        int count = 0;
        for (int x = 0; x < text.wide; x++) {
            for (int y = 0; y < text.deep; y++) {
                count += lengthBy(man, bestWay(man, x, y), x, y) <= text.men.get(man).longs ? 1 : 0;
            }
        }
        return count;
    }

    int turns(int man, int pillar) {
        if (no(man) || pillar < 0 || pillar >= text.pillars.size()) {
            return -1000;
        }
        int[] at = text.pillars.get(pillar);
        int count = 0;
        for (Piece piece : of(now, man)) {
            if (piece.fromX > at[0] && piece.fromY == at[1] && piece.toY == at[1] + 1) {
                count++;
            }
            if (piece.fromX > at[0] && piece.toY == at[1] && piece.fromY == at[1] + 1) {
                count--;
            }
        }
        return count;
    }

    int meet(int man, int other) {
        if (no(man, other)) {
            return -1;
        }
        State s = now.copy();
        for (int i = 0; i <= 200; i++) {
            if (s.x[man] == s.x[other] && s.y[man] == s.y[other]) {
                return i;
            }
            minute(s);
        }
        return -2;
    }

    private int overAll(int man) {
        int count = 0;
        for (int other = 0; other < men(); other++) {
            count += other == man ? 0 : overIn(now, man, other);
        }
        return count;
    }

    int most(int what) {
        if (what < 0 || what > 1) {
            return -1;
        }
        int best = -2;
        for (int i = 0; i < men(); i++) {
            if (best == -2 || overAll(i) > overAll(best)) {
                best = i;
            }
        }
        return what == 0 || best == -2 ? best : overAll(best);
    }

    private List<Piece> at(int x, int y, int way) {
        if (way < 1 || way > 4 || !inTown(x, y) || !inTown(x + DX[way], y + DY[way])) {
            return null;
        }
        Piece piece = new Piece();
        piece.fromX = x;
        piece.fromY = y;
        piece.toX = x + DX[way];
        piece.toY = y + DY[way];
        return on(now, piece.street());
    }

    int street(int x, int y, int way, int i) {
        List<Piece> there = at(x, y, way);
        if (there == null || i < -1 || i >= there.size()) {
            return -1;
        }
        return i == -1 ? there.size() : there.get(i).man;
    }

    private int[] duskBy(int rule) {
        State s = now.copy();
        int[] row = new int[4];
        while (true) {
            long[] wish = new long[men()];
            for (int i = 0; i < men(); i++) {
                List<Piece> his = of(s, i);
                wish[i] = rule == 1 ? his.size() : rule == 2 ? left(s, i)
                    : rule == 3 ? (his.isEmpty() ? -1 : s.pieces.indexOf(his.get(his.size() - 1)))
                    : rule == 4 ? lot(1000, text.seed, 2000 + 8 * (now.minute + row[0]) + i) : 0;
            }
            List<Integer> order = new ArrayList<>();
            for (int i = 0; i < men(); i++) {
                order.add(i);
            }
            order.sort((a, b) -> Long.compare(wish[b], wish[a]));
            int up = 0;
            for (int i : order) {
                up += doWind(s, i) ? 1 : 0;
            }
            if (up == 0) {
                break;
            }
            row[0]++;
            row[1] += up;
        }
        for (int i = 0; i < men(); i++) {
            if (!of(s, i).isEmpty()) {
                row[3] |= 1 << i;
            } else if (!s.lost[i]) {
                row[2] |= 1 << i;
            }
        }
        return row;
    }

    int dusk(int rule, int what) {
        return rule < 0 || rule > 4 || what < 0 || what > 3 ? -1 : duskBy(rule)[what];
    }

    int bestDusk() {
        int best = 0;
        for (int rule = 1; rule < 5; rule++) {
            int[] a = duskBy(rule);
            int[] b = duskBy(best);
            if (a[1] > b[1] || (a[1] == b[1] && a[0] < b[0])) {
                best = rule;
            }
        }
        return best;
    }

    private int topOf(List<Piece> there) {
        return there.get(there.size() - 1).man;
    }

    int shows(int x, int y, int way) {
        List<Piece> there = at(x, y, way);
        return there == null ? -1 : there.isEmpty() ? -2 : text.men.get(topOf(there)).dye;
    }

    private Set<String> streets() {
        Set<String> all = new HashSet<>();
        for (Piece piece : now.pieces) {
            all.add(piece.street());
        }
        return all;
    }

    int shown(int dye) {
        if (dye < 0 || dye > 9) {
            return -1;
        }
        int count = 0;
        for (String street : streets()) {
            count += text.men.get(topOf(on(now, street))).dye == dye ? 1 : 0;
        }
        return count;
    }

    int uppermost(int man) {
        if (no(man)) {
            return -1;
        }
        int count = 0;
        for (String street : streets()) {
            count += topOf(on(now, street)) == man ? 1 : 0;
        }
        return count;
    }

    int knows(int man) {
        if (no(man)) {
            return -1;
        }
        int bits = 0;
        for (int other = 0; other < men(); other++) {
            if (other != man && overIn(now, man, other) + overIn(now, other, man) > 0) {
                bits |= 1 << other;
            }
        }
        return bits;
    }

    /** Fewest steps between all two, by going through a third again and again; 99: none. */
    private int[][] spans() {
        int[][] span = new int[men()][men()];
        for (int i = 0; i < men(); i++) {
            for (int j = 0; j < men(); j++) {
                span[i][j] = i == j ? 0 : (knows(i) >> j & 1) != 0 ? 1 : 99;
            }
        }
        for (int k = 0; k < men(); k++) {
            for (int i = 0; i < men(); i++) {
                for (int j = 0; j < men(); j++) {
                    span[i][j] = Math.min(span[i][j], span[i][k] + span[k][j]);
                }
            }
        }
        return span;
    }

    int links(int man, int other) {
        return no(man, other) ? -1 : spans()[man][other] < 99 ? spans()[man][other] : -2;
    }

    int rounds() {
        int[][] span = spans();
        int count = 0;
        for (int man : lying(now)) {
            boolean first = true;
            for (int other = 0; other < man; other++) {
                first &= span[man][other] >= 99;
            }
            count += first ? 1 : 0;
        }
        return count;
    }

    int crowd(int what) {
        if (what < 0 || what > 1) {
            return -1;
        }
        if (now.pieces.isEmpty()) {
            return -2;
        }
        int best = -1;
        int most = 0;
        for (int y = 0; y < text.deep; y++) {
            for (int x = 0; x < text.wide; x++) {
                Set<Integer> who = new HashSet<>();
                for (Piece piece : now.pieces) {
                    NaiveText.Man his = text.men.get(piece.man);
                    if ((piece.toX == x && piece.toY == y) || (his.x == x && his.y == y)) {
                        who.add(piece.man);
                    }
                }
                if (who.size() > most) {
                    most = who.size();
                    best = 100 * y + x;
                }
            }
        }
        return what == 0 ? best : most;
    }

    private State plainDay(int bits) {
        State s = morning();
        for (int man = 0; man < men(); man++) {
            for (int i : bestWay(man, s.x[man], s.y[man])) {
                int[] errand = text.men.get(man).errands.get(i);
                boolean byY = (bits >> man & 1) != 0;
                for (int half = 0; half < 2; half++) {
                    boolean alongY = byY == (half == 0);
                    while (alongY ? s.y[man] != errand[1] : s.x[man] != errand[0]) {
                        int way = alongY ? (errand[1] > s.y[man] ? 1 : 3) : (errand[0] > s.x[man] ? 2 : 4);
                        layAnyhow(s, man, way);
                    }
                }
            }
        }
        return s;
    }

    private void layAnyhow(State s, int man, int way) {
        Piece piece = new Piece();
        piece.man = man;
        piece.way = way;
        piece.fromX = s.x[man];
        piece.fromY = s.y[man];
        s.x[man] += DX[way];
        s.y[man] += DY[way];
        piece.toX = s.x[man];
        piece.toY = s.y[man];
        s.pieces.add(piece);
    }

    int plain(int what) {
        if (what < 0 || what > 1) {
            return -1;
        }
        int best = 0;
        int fewest = Integer.MAX_VALUE;
        for (int bits = 0; bits < 1 << men(); bits++) {
            Map<String, int[]> counts = new HashMap<>();
            for (Piece piece : plainDay(bits).pieces) {
                counts.computeIfAbsent(piece.street(), key -> new int[7])[piece.man]++;
            }
            int times = 0;
            for (int[] row : counts.values()) {
                for (int i = 0; i < 7; i++) {
                    for (int j = 0; j < i; j++) {
                        times += row[i] * row[j];
                    }
                }
            }
            if (times < fewest) {
                fewest = times;
                best = bits;
            }
        }
        return what == 0 ? fewest : best;
    }

    int thieves() {
        int bits = 0;
        for (int man = 0; man < men(); man++) {
            for (int i = 0; i < text.pillars.size(); i++) {
                bits |= turns(man, i) < 0 ? 1 << man : 0;
            }
        }
        return bits;
    }

    int nearest(int man, int what) {
        if (no(man) || what < 0 || what > 1) {
            return -1;
        }
        int best = -2;
        int least = 0;
        for (int i = men() - 1; i >= 0; i--) {
            int far = Math.abs(now.x[i] - now.x[man]) + Math.abs(now.y[i] - now.y[man]);
            if (i != man && (best == -2 || far <= least)) {
                best = i;
                least = far;
            }
        }
        return what == 0 || best == -2 ? best : least;
    }

    int unfair() {
        int spread = 0;
        for (int i = 0; i < men(); i++) {
            for (int j = 0; j < men(); j++) {
                spread = Math.max(spread, overAll(i) - overAll(j));
            }
        }
        return spread;
    }

    int tell(int man, int other, boolean over) {
        if (no(man, other) || told.size() == 12) {
            return -1;
        }
        told.add(new int[] {man, other, over ? 1 : 0});
        return told.size() - 1;
    }

    int forget() {
        int size = told.size();
        told.clear();
        return size;
    }

    int starts(int m, int n, int k) {
        if (m < 0 || m > 3 || n < 0 || n > 40 || k < 0 || k > told.size()) {
            return -1;
        }
        long rows = Math.round(Math.pow(m + 1, men()));
        if (rows > 1000) {
            return -2;
        }
        int count = 0;
        for (int row = 0; row < rows; row++) {
            State s = morning();
            for (int t = 0; t < n; t++) {
                int rest = row;
                for (int man = 0; man < men(); man++) {
                    int start = rest % (m + 1);
                    rest /= m + 1;
                    if (t >= start) {
                        act(s, man, t - start);
                    }
                }
            }
            boolean fits = true;
            for (int i = 0; i < k && fits; i++) {
                int[] one = told.get(i);
                fits = (overIn(s, one[0], one[1]) > 0) == (one[2] == 1);
            }
            count += fits ? 1 : 0;
        }
        return count;
    }

    boolean hold(int slot) {
        if (slot < 0 || slot > 2) {
            return false;
        }
        slots[slot] = now.copy();
        return true;
    }

    boolean restore(int slot) {
        if (slot < 0 || slot > 2 || slots[slot] == null) {
            return false;
        }
        now = slots[slot].copy();
        undos.clear();
        return true;
    }

    int count(int what) {
        if (what < 0 || what > 11) {
            return -1;
        }
        int lost = 0;
        int errands = 0;
        for (int i = 0; i < men(); i++) {
            lost += now.lost[i] ? 1 : 0;
            errands += text.men.get(i).errands.size();
        }
        int held = 0;
        for (State slot : slots) {
            held += slot != null ? 1 : 0;
        }
        int[] all = {men(), text.wide, text.deep, now.minute, now.pieces.size(), lost, text.pillars.size(),
            errands, tape.length(), undos.size(), told.size(), held};
        return all[what];
    }
}
