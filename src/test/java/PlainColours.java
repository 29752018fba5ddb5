import java.util.ArrayList;
import java.util.Arrays;
import java.util.HashSet;
import java.util.List;
import java.util.Set;

/**
 * The document once more, as slowly and as word by word as it goes, to hold KeptColours against:
 * COPIES by trying rows of POINTS against lists of JOINS and of order, lists by counting through all
 * COLOURINGS, FORMS by all numberings, PROOFS read by recursion.
 */
final class PlainColours {
    static final int BAD = -1000000001, NO = -1000000002, FULL = -1000000003, LARGE = -1000000004, SPENT = -1000000006, NONE = -1000000005;

    /** What a CHANGE changes; never changed itself once it is kept. */
    private static final class State {
        int n = 6;
        int colours = 2;
        int[] kind = new int[3];
        int[] size = new int[3];
        int[][] tone = bare(6);

        State twin() {
            State s = new State();
            s.n = n;
            s.colours = colours;
            s.kind = kind.clone();
            s.size = size.clone();
            s.tone = new int[n][];
            for (int i = 0; i < n; i++) {
                s.tone[i] = tone[i].clone();
            }
            return s;
        }
    }

    /** Positions in a row: which are joined, and which hold lesser POINTS than which. */
    private static final class Shape {
        int length;
        final List<int[]> joined = new ArrayList<>();
        final List<int[]> rising = new ArrayList<>();
    }

    private State s = new State();
    private final List<State> kept = new ArrayList<>();
    private List<int[]> proof = null;
    private int tries = 0;

    private static int[][] bare(int n) {
        int[][] t = new int[n][n];
        for (int[] r : t) {
            Arrays.fill(r, -1);
        }
        return t;
    }

    private static Shape shape(int kind, int m) {
        Shape f = new Shape();
        f.length = kind == 3 ? m + 1 : kind == 4 ? m + 2 : m;
        for (int a = 0; a < f.length; a++) {
            for (int b = a + 1; b < f.length; b++) {
                boolean next = b == a + 1;
                boolean ends = a == 0 && b == f.length - 1;
                boolean in = kind == 1 || kind == 2 && (next || ends) || kind == 3 && a == 0
                        || kind == 4 && a <= 1 || kind == 5 && next;
                boolean up = kind == 1 || kind == 2 && (a == 0 || a == 1 && b == f.length - 1) || kind == 3 && a > 0
                        || kind == 4 && (a > 1 || b == 1) || kind == 5 && ends;
                if (in) {
                    f.joined.add(new int[] {a, b});
                }
                if (up) {
                    f.rising.add(new int[] {a, b});
                }
            }
        }
        return f;
    }

    private static List<int[]> allCopies(State at, int colour, boolean onlyFirst) {
        List<int[]> found = new ArrayList<>();
        if (at.kind[colour] != 0) {
            Shape f = shape(at.kind[colour], at.size[colour]);
            extend(at, colour, f, new int[f.length], 0, found, onlyFirst);
        }
        return found;
    }

    private static void extend(State at, int colour, Shape f, int[] row, int depth, List<int[]> found, boolean onlyFirst) {
        if (depth == f.length) {
            found.add(row.clone());
            return;
        }
        for (int p = 0; p < at.n && !(onlyFirst && !found.isEmpty()); p++) {
            row[depth] = p;
            if (fits(at, colour, f, row, depth)) {
                extend(at, colour, f, row, depth + 1, found, onlyFirst);
            }
        }
    }

    private static boolean fits(State at, int colour, Shape f, int[] row, int depth) {
        for (int i = 0; i < depth; i++) {
            if (row[i] == row[depth]) {
                return false;
            }
        }
        for (int[] j : f.joined) {
            if (j[1] == depth && at.tone[row[j[0]]][row[depth]] != colour) {
                return false;
            }
        }
        for (int[] r : f.rising) {
            if (r[1] == depth && row[r[0]] >= row[depth]) {
                return false;
            }
        }
        return true;
    }

    private static int clashes(State at) {
        int sum = 0;
        for (int c = 0; c < at.colours; c++) {
            sum += allCopies(at, c, false).size();
        }
        return sum;
    }

    private static boolean isClear(State at) {
        for (int c = 0; c < at.colours; c++) {
            if (!allCopies(at, c, true).isEmpty()) {
                return false;
            }
        }
        return true;
    }

    private static int bareJoins(State at) {
        int sum = 0;
        for (int j = 0; j < at.n; j++) {
            for (int i = 0; i < j; i++) {
                sum += at.tone[i][j] == -1 ? 1 : 0;
            }
        }
        return sum;
    }

    private static void give(State at, int i, int j, int colour) {
        at.tone[i][j] = colour;
        at.tone[j][i] = colour;
    }

    private void change(State to) {
        kept.add(s);
        if (kept.size() > 6) {
            kept.remove(0);
        }
        s = to;
        proof = null;
    }

    private boolean noColour(int c) {
        return c < 0 || c >= s.colours;
    }

    private boolean noPoint(int p) {
        return p < 0 || p >= s.n;
    }

    int net(int n, int colours) {
        if (n < 1 || n > 12 || colours != 2 && colours != 3) {
            return BAD;
        }
        State t = s.twin();
        t.n = n;
        t.colours = colours;
        t.tone = bare(n);
        if (colours == 2) {
            t.kind[2] = 0;
            t.size[2] = 0;
        }
        change(t);
        return n * (n - 1) / 2;
    }

    int target(int colour, int kind, int size) {
        boolean sized = kind == 0 && size == 0 || kind == 1 && size >= 2 && size <= 6 || kind == 2 && size >= 3 && size <= 5
                || kind == 3 && size >= 1 && size <= 6 || kind == 4 && size >= 1 && size <= 4 || kind == 5 && size >= 2 && size <= 5;
        if (noColour(colour) || !sized) {
            return BAD;
        }
        State t = s.twin();
        t.kind[colour] = kind;
        t.size[colour] = size;
        change(t);
        return 0;
    }

    int paint(int i, int j, int colour) {
        if (noPoint(i) || noPoint(j) || i == j || colour != -1 && noColour(colour)) {
            return BAD;
        }
        State t = s.twin();
        give(t, i, j, colour);
        int was = s.tone[i][j];
        change(t);
        return was;
    }

    int colour(int i, int j) {
        return noPoint(i) || noPoint(j) || i == j ? BAD : s.tone[i][j];
    }

    int aim(int colour, int what) {
        return noColour(colour) || what != 0 && what != 1 ? BAD : what == 0 ? s.kind[colour] : s.size[colour];
    }

    int isOf(int colour, int kind) {
        if (noColour(colour) || kind < 0 || kind > 6) {
            return BAD;
        }
        int k = s.kind[colour];
        return k == kind || kind == 6 && (k == 2 || k == 5) ? 1 : 0;
    }

    int clear() {
        return isClear(s) ? 1 : 0;
    }

    int copies(int colour) {
        return noColour(colour) ? BAD : allCopies(s, colour, false).size();
    }

    int copy(int colour, int i) {
        if (noColour(colour) || i < 0) {
            return BAD;
        }
        List<int[]> all = allCopies(s, colour, true);
        return all.isEmpty() || i >= all.get(0).length ? NONE : all.get(0)[i];
    }

    int degree(int point, int colour) {
        if (noPoint(point) || colour != -1 && noColour(colour)) {
            return BAD;
        }
        int sum = 0;
        for (int q = 0; q < s.n; q++) {
            sum += q != point && s.tone[point][q] == colour ? 1 : 0;
        }
        return sum;
    }

    int triangles() {
        int sum = 0;
        for (int a = 0; a < s.n; a++) {
            for (int b = a + 1; b < s.n; b++) {
                for (int c = b + 1; c < s.n; c++) {
                    int t = s.tone[a][b];
                    sum += t != -1 && s.tone[a][c] == t && s.tone[b][c] == t ? 1 : 0;
                }
            }
        }
        return sum;
    }

    /** Goodman's numbers, written out. */
    int least(int n) {
        int[] told = {0, 0, 0, 0, 0, 2, 4, 8, 12, 20, 28, 40};
        return n < 1 || n > 12 ? BAD : told[n - 1];
    }

    private int turnCount() {
        int all = 1;
        for (int i = 0; i < s.n / 2; i++) {
            all *= s.colours;
        }
        return all;
    }

    private State turnedState(int t) {
        State u = s.twin();
        int[] digit = new int[8];
        for (int d = 0; d < 8; d++) {
            digit[d] = t % s.colours;
            t /= s.colours;
        }
        for (int j = 0; j < s.n; j++) {
            for (int i = 0; i < j; i++) {
                give(u, i, j, digit[Math.min(j - i, s.n - j + i) - 1]);
            }
        }
        return u;
    }

    int turned(int t) {
        if (t < 0 || t >= turnCount()) {
            return BAD;
        }
        change(turnedState(t));
        return clashes(s);
    }

    int turns(int what) {
        if (what < 0 || what > 2) {
            return BAD;
        }
        List<Integer> good = new ArrayList<>();
        for (int t = 0; t < turnCount(); t++) {
            if (isClear(turnedState(t))) {
                good.add(t);
            }
        }
        return what == 0 ? good.size() : good.isEmpty() ? NONE : what == 1 ? good.get(0) : good.get(good.size() - 1);
    }

    private boolean isLarge(int exponent) {
        return Math.pow(s.colours, exponent) > 60000.5;
    }

    /** All COLOURINGS of n POINTS, by counting to the base C with JOIN 0 as the highest digit. */
    private List<State> wholeList(int n) {
        List<State> found = new ArrayList<>();
        int joins = n * (n - 1) / 2;
        long all = Math.round(Math.pow(s.colours, joins));
        for (long code = 0; code < all; code++) {
            State t = s.twin();
            t.n = n;
            t.tone = bare(n);
            long rest = code;
            for (int j = n - 1; j >= 0; j--) {
                for (int i = j - 1; i >= 0; i--) {
                    give(t, i, j, (int) (rest % s.colours));
                    rest /= s.colours;
                }
            }
            if (isClear(t)) {
                found.add(t);
            }
        }
        return found;
    }

    int list(int n, int what) {
        if (n < 1 || n > 12 || what != 0 && what != 1) {
            return BAD;
        }
        if (isLarge(n * (n - 1) / 2)) {
            return LARGE;
        }
        List<State> all = wholeList(n);
        if (what == 0) {
            return all.size();
        }
        Set<String> seen = new HashSet<>();
        int forms = 0;
        for (State t : all) {
            if (seen.contains(text(t, null))) {
                continue;
            }
            forms++;
            for (int[] way : ways(n)) {
                seen.add(text(t, way));
            }
        }
        return forms;
    }

    int listed(int n, int k) {
        if (n < 1 || n > 12 || k < 0) {
            return BAD;
        }
        if (isLarge(n * (n - 1) / 2)) {
            return LARGE;
        }
        List<State> all = wholeList(n);
        if (k >= all.size()) {
            change(s);
            return NONE;
        }
        change(all.get(k));
        return n * (n - 1) / 2;
    }

    private static List<int[]> ways(int n) {
        List<int[]> all = new ArrayList<>();
        order(new int[n], 0, 0, all);
        return all;
    }

    private static void order(int[] way, int depth, int used, List<int[]> all) {
        if (depth == way.length) {
            all.add(way.clone());
        }
        for (int p = 0; p < way.length && depth < way.length; p++) {
            if ((used >> p & 1) == 0) {
                way[depth] = p;
                order(way, depth + 1, used | 1 << p, all);
            }
        }
    }

    /** The COLOURS by the JOINS' numbers, each a character, BARE the least; compared as texts they are in order. */
    private static String text(State t, int[] way) {
        StringBuilder b = new StringBuilder();
        for (int j = 0; j < t.n; j++) {
            for (int i = 0; i < j; i++) {
                b.append((char) ('b' + (way == null ? t.tone[i][j] : t.tone[way[i]][way[j]])));
            }
        }
        return b.toString();
    }

    private String leastText() {
        String least = text(s, null);
        for (int[] way : ways(s.n)) {
            String other = text(s, way);
            if (other.compareTo(least) < 0) {
                least = other;
            }
        }
        return least;
    }

    int form(int k) {
        if (k < 0 || k >= s.n * (s.n - 1) / 2) {
            return BAD;
        }
        return s.n > 7 ? LARGE : leastText().charAt(k) - 'b';
    }

    int same() {
        if (s.n > 7) {
            return LARGE;
        }
        String least = leastText();
        int sum = 0;
        for (int[] way : ways(s.n)) {
            sum += text(s, way).equals(least) ? 1 : 0;
        }
        return sum;
    }

    private int noPuts() {
        if (s.n == 12) {
            return FULL;
        }
        if (isLarge(s.n)) {
            return LARGE;
        }
        return bareJoins(s) > 0 || !isClear(s) ? NO : 0;
    }

    private List<State> allPuts() {
        List<State> found = new ArrayList<>();
        long all = Math.round(Math.pow(s.colours, s.n));
        for (long code = 0; code < all; code++) {
            State t = s.twin();
            t.n = s.n + 1;
            t.tone = bare(t.n);
            for (int i = 0; i < s.n; i++) {
                System.arraycopy(s.tone[i], 0, t.tone[i], 0, s.n);
            }
            long rest = code;
            for (int i = s.n - 1; i >= 0; i--) {
                give(t, i, s.n, (int) (rest % s.colours));
                rest /= s.colours;
            }
            if (isClear(t)) {
                found.add(t);
            }
        }
        return found;
    }

    int puts() {
        return noPuts() != 0 ? noPuts() : allPuts().size();
    }

    int put(int k) {
        if (noPuts() != 0) {
            return noPuts();
        }
        if (k < 0) {
            return BAD;
        }
        List<State> all = allPuts();
        if (k >= all.size()) {
            change(s);
            return NONE;
        }
        change(all.get(k));
        return s.n;
    }

    int drop() {
        if (s.n == 1) {
            return NO;
        }
        State t = s.twin();
        t.n--;
        t.tone = bare(t.n);
        for (int i = 0; i < t.n; i++) {
            System.arraycopy(s.tone[i], 0, t.tone[i], 0, t.n);
        }
        change(t);
        return s.n;
    }

    /** The two POINTS of JOIN k. */
    private static int[] ends(int k) {
        for (int j = 1; ; j++) {
            for (int i = 0; i < j; i++) {
                if (j * (j - 1) / 2 + i == k) {
                    return new int[] {i, j};
                }
            }
        }
    }

    private static List<Integer> bareNumbers(State at) {
        List<Integer> open = new ArrayList<>();
        for (int k = 0; k < at.n * (at.n - 1) / 2; k++) {
            int[] e = ends(k);
            if (at.tone[e[0]][e[1]] == -1) {
                open.add(k);
            }
        }
        return open;
    }

    /** 1 found (it stands in t then), 0 none, SPENT; a row for each TRY. */
    private static int filling(State t, List<Integer> open, int depth, int most, List<int[]> rows) {
        if (depth == open.size()) {
            return 1;
        }
        int[] e = ends(open.get(depth));
        for (int c = 0; c < t.colours; c++) {
            if (rows.size() == most) {
                return SPENT;
            }
            give(t, e[0], e[1], c);
            List<int[]> clash = allCopies(t, c, true);
            int bits = 0;
            for (int p : clash.isEmpty() ? new int[0] : clash.get(0)) {
                bits |= 1 << p;
            }
            rows.add(new int[] {open.get(depth), c, bits});
            if (bits == 0) {
                int behind = filling(t, open, depth + 1, most, rows);
                if (behind != 0) {
                    return behind;
                }
            }
        }
        give(t, e[0], e[1], -1);
        return 0;
    }

    int fill(int most) {
        if (most < 1 || most > 20000) {
            return BAD;
        }
        State t = s.twin();
        List<int[]> rows = new ArrayList<>();
        int end = isClear(t) ? filling(t, bareNumbers(t), 0, most, rows) : 0;
        if (end == SPENT) {
            return SPENT;
        }
        tries = rows.size();
        if (end == 1) {
            change(t);
        }
        return end;
    }

    int tries() {
        return tries;
    }

    int prove() {
        List<int[]> rows = new ArrayList<>();
        State t = s.twin();
        int end = isClear(t) ? filling(t, bareNumbers(t), 0, 500, rows) : 1;
        if (end != 0) {
            return end == 1 ? NO : FULL;
        }
        proof = rows;
        return rows.size();
    }

    int row(int i, int what) {
        if (proof == null) {
            return NO;
        }
        return i < 0 || i >= proof.size() || what < 0 || what > 2 ? BAD : proof.get(i)[what];
    }

    int forge(int i, int points) {
        if (proof == null) {
            return NO;
        }
        if (i < 0 || i >= proof.size() || points < 0 || points > 4095) {
            return BAD;
        }
        int was = proof.get(i)[2];
        proof.get(i)[2] = points;
        return was;
    }

    private int at;

    int check() {
        if (proof == null) {
            return NO;
        }
        at = 0;
        State t = s.twin();
        boolean holds = readBranch(t, bareNumbers(t), 0);
        return holds && at == proof.size() ? 0 : 1 + at;
    }

    /** All TRIES of one JOIN with what comes behind them; false at the first row that is not as told: `at` stands on it. */
    private boolean readBranch(State t, List<Integer> open, int depth) {
        int[] e = ends(open.get(depth));
        for (int c = 0; c < t.colours; c++) {
            if (at == proof.size()) {
                return false;
            }
            int[] r = proof.get(at);
            if (r[0] != open.get(depth) || r[1] != c) {
                return false;
            }
            give(t, e[0], e[1], c);
            if (r[2] != 0) {
                if (!isCopyOfJust(t, c, r[2], e)) {
                    return false;
                }
                at++;
            } else {
                if (depth + 1 == open.size()) {
                    return false;
                }
                at++;
                if (!readBranch(t, open, depth + 1)) {
                    return false;
                }
            }
        }
        give(t, e[0], e[1], -1);
        return true;
    }

    private static boolean isCopyOfJust(State t, int colour, int bits, int[] e) {
        if (t.kind[colour] == 0) {
            return false;
        }
        Shape f = shape(t.kind[colour], t.size[colour]);
        for (int[] copy : allCopies(t, colour, false)) {
            int own = 0;
            for (int p : copy) {
                own |= 1 << p;
            }
            for (int[] j : f.joined) {
                int a = copy[j[0]];
                int b = copy[j[1]];
                if (own == bits && Math.min(a, b) == e[0] && Math.max(a, b) == e[1]) {
                    return true;
                }
            }
        }
        return false;
    }

    int step(int n) {
        if (n < 1 || n > 30) {
            return BAD;
        }
        if (bareJoins(s) > 0) {
            return NO;
        }
        State t = s.twin();
        int done = 0;
        while (done < n && oneStep(t)) {
            done++;
        }
        change(t);
        return done;
    }

    private static boolean oneStep(State t) {
        int least = clashes(t);
        int[] best = null;
        for (int k = 0; k < t.n * (t.n - 1) / 2; k++) {
            int[] e = ends(k);
            int was = t.tone[e[0]][e[1]];
            for (int c = 0; c < t.colours; c++) {
                give(t, e[0], e[1], c);
                if (clashes(t) < least) {
                    least = clashes(t);
                    best = new int[] {e[0], e[1], c};
                }
            }
            give(t, e[0], e[1], was);
        }
        if (best != null) {
            give(t, best[0], best[1], best[2]);
        }
        return best != null;
    }

    int undo() {
        if (kept.isEmpty()) {
            return NO;
        }
        s = kept.remove(kept.size() - 1);
        proof = null;
        return kept.size();
    }

    int count(int what) {
        int[] all = {s.n, s.colours, bareJoins(s), what == 3 ? clashes(s) : 0, kept.size(), proof == null ? 0 : proof.size()};
        return what < 0 || what > 5 ? BAD : all[what];
    }
}
