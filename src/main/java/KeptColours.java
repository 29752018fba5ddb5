import java.util.Arrays;

/**
 * A bench of kept-off colours: a net in which each two points are joined, joins in two or three
 * colours, and for each colour a small net that must not come in it. The words in capitals are
 * those of the document. No call makes an object: all that calls need is made with the bench.
 */
public final class KeptColours {
    public static final int BAD = -1000000001, NO = -1000000002, FULL = -1000000003, LARGE = -1000000004, SPENT = -1000000006, NONE = -1000000005;

    private static final int BARE = -1;
    private static final int MOST_POINTS = 12, MOST_JOINS = 66, MOST_COLOURS = 3;
    private static final int LONGEST_LIST = 60000;
    private static final int MOST_FORM_POINTS = 7, MOST_FORM_JOINS = 21;
    private static final int MOST_TRIES = 20000, MOST_ROWS = 500, MOST_STEPS = 30, MOST_KEPT = 6;
    private static final int MOST_BITS = 4095;
    /** Far above the TRIES by which any list or row of COLOURS is gone through whole. */
    private static final int ALL_TRIES = 1000000;

    private static final int NOTHING = 0, ALL = 1, RING = 2, STAR = 3, BOOK = 4, PATH = 5, ROWS = 6;
    /** By KIND: the sizes that there are, and how many POINTS a COPY has beyond its size. */
    private static final int[] LEAST_SIZE = {0, 2, 3, 1, 1, 2};
    private static final int[] MOST_SIZE = {0, 6, 5, 6, 4, 5};
    private static final int[] POINTS_BEYOND = {0, 0, 0, 1, 2, 0};
    private static final int LONGEST_COPY = 7;

    /** How a FILLING went on. */
    private static final int FOUND = 1, ENDED = 0, TOO_MANY = -1;

    /** The two POINTS of each JOIN, by its number. */
    private static final int[] LOW = {
        0,
        0, 1,
        0, 1, 2,
        0, 1, 2, 3,
        0, 1, 2, 3, 4,
        0, 1, 2, 3, 4, 5,
        0, 1, 2, 3, 4, 5, 6,
        0, 1, 2, 3, 4, 5, 6, 7,
        0, 1, 2, 3, 4, 5, 6, 7, 8,
        0, 1, 2, 3, 4, 5, 6, 7, 8, 9,
        0, 1, 2, 3, 4, 5, 6, 7, 8, 9, 10
    };
    private static final int[] HIGH = {
        1,
        2, 2,
        3, 3, 3,
        4, 4, 4, 4,
        5, 5, 5, 5, 5,
        6, 6, 6, 6, 6, 6,
        7, 7, 7, 7, 7, 7, 7,
        8, 8, 8, 8, 8, 8, 8, 8,
        9, 9, 9, 9, 9, 9, 9, 9, 9,
        10, 10, 10, 10, 10, 10, 10, 10, 10, 10,
        11, 11, 11, 11, 11, 11, 11, 11, 11, 11, 11
    };

    private final Net now;
    private final Finder finder;
    private final Filling filling;
    private final Forms forms;
    private final Proof proof;
    private final Walker walker;
    private final History history;
    private int latestTries;

    public KeptColours() {
        now = new Net();
        finder = new Finder();
        Outward outward = new Outward();
        filling = new Filling(finder, outward);
        forms = new Forms();
        proof = new Proof(finder, outward);
        walker = new Walker(outward);
        history = new History();
        latestTries = 0;
    }

    // ---- the net

    public int net(int n, int colours) {
        if (n < 1 || n > MOST_POINTS || colours < 2 || colours > MOST_COLOURS) {
            return BAD;
        }
        remember();
        now.layOut(n, colours);
        return now.joinCount();
    }

    public int target(int colour, int kind, int size) {
        if (!now.hasColour(colour) || kind < NOTHING || kind > PATH) {
            return BAD;
        }
        if (size < LEAST_SIZE[kind] || size > MOST_SIZE[kind]) {
            return BAD;
        }
        remember();
        now.kinds[colour] = kind;
        now.sizes[colour] = size;
        return 0;
    }

    public int paint(int i, int j, int colour) {
        if (!now.hasJoin(i, j) || !now.hasColourOrBare(colour)) {
            return BAD;
        }
        remember();
        int join = numberOf(i, j);
        int before = now.tones[join];
        now.give(join, colour);
        return before;
    }

    public int colour(int i, int j) {
        return now.hasJoin(i, j) ? now.tones[numberOf(i, j)] : BAD;
    }

    public int aim(int colour, int what) {
        if (!now.hasColour(colour) || what < 0 || what > 1) {
            return BAD;
        }
        return what == 0 ? now.kinds[colour] : now.sizes[colour];
    }

    public int isOf(int colour, int kind) {
        if (!now.hasColour(colour) || kind < NOTHING || kind > ROWS) {
            return BAD;
        }
        int own = now.kinds[colour];
        boolean fits = kind == ROWS ? own == RING || own == PATH : own == kind;
        return fits ? 1 : 0;
    }

    // ---- copies

    public int clear() {
        return finder.hasAny(now) ? 0 : 1;
    }

    public int copies(int colour) {
        return now.hasColour(colour) ? finder.howMany(now, colour) : BAD;
    }

    public int copy(int colour, int i) {
        if (!now.hasColour(colour) || i < 0) {
            return BAD;
        }
        if (!finder.findFirst(now, colour) || i >= finder.length) {
            return NONE;
        }
        return finder.row[i];
    }

    public int degree(int point, int colour) {
        if (!now.hasPoint(point) || !now.hasColourOrBare(colour)) {
            return BAD;
        }
        int sum = 0;
        for (int other = 0; other < now.points; other++) {
            if (other != point && now.tones[numberOf(point, other)] == colour) {
                sum++;
            }
        }
        return sum;
    }

    public int triangles() {
        int sum = 0;
        for (int join = 0; join < now.joinCount(); join++) {
            int tone = now.tones[join];
            for (int third = HIGH[join] + 1; third < now.points && tone != BARE; third++) {
                if (now.tones[numberOf(LOW[join], third)] == tone && now.tones[numberOf(HIGH[join], third)] == tone) {
                    sum++;
                }
            }
        }
        return sum;
    }

    public int least(int n) {
        if (n < 1 || n > MOST_POINTS) {
            return BAD;
        }
        int d = (n - 1) / 2;
        return n * (n - 1) * (n - 2) / 6 - n * d * (n - 1 - d) / 2;
    }

    // ---- colourings

    public int turned(int t) {
        if (t < 0 || t >= now.turnCount()) {
            return BAD;
        }
        remember();
        now.turn(t);
        return finder.clashes(now);
    }

    public int turns(int what) {
        if (what < 0 || what > 2) {
            return BAD;
        }
        Net board = filling.board;
        board.become(now);
        int sum = 0;
        int least = NONE;
        int greatest = NONE;
        for (int t = 0; t < now.turnCount(); t++) {
            board.turn(t);
            if (!finder.hasAny(board)) {
                sum++;
                least = sum == 1 ? t : least;
                greatest = t;
            }
        }
        return what == 0 ? sum : what == 1 ? least : greatest;
    }

    public int list(int n, int what) {
        if (n < 1 || n > MOST_POINTS || what < 0 || what > 1) {
            return BAD;
        }
        if (isListLarge(n)) {
            return LARGE;
        }
        filling.beginList(now, n);
        return what == 0 ? filling.countAll() : forms.countFirst(filling);
    }

    public int listed(int n, int k) {
        if (n < 1 || n > MOST_POINTS || k < 0) {
            return BAD;
        }
        if (isListLarge(n)) {
            return LARGE;
        }
        filling.beginList(now, n);
        boolean isThere = filling.reach(k);
        changeTo(isThere ? filling.board : now);
        return isThere ? now.joinCount() : NONE;
    }

    public int form(int k) {
        if (k < 0 || k >= now.joinCount()) {
            return BAD;
        }
        if (now.points > MOST_FORM_POINTS) {
            return LARGE;
        }
        forms.seek(now);
        return forms.best[k];
    }

    public int same() {
        if (now.points > MOST_FORM_POINTS) {
            return LARGE;
        }
        forms.seek(now);
        return forms.ways;
    }

    public int puts() {
        int refusal = whyNoPut();
        if (refusal != 0) {
            return refusal;
        }
        filling.beginPut(now);
        return filling.countAll();
    }

    public int put(int k) {
        int refusal = whyNoPut();
        if (refusal != 0) {
            return refusal;
        }
        if (k < 0) {
            return BAD;
        }
        filling.beginPut(now);
        boolean isThere = filling.reach(k);
        changeTo(isThere ? filling.board : now);
        return isThere ? now.points : NONE;
    }

    public int drop() {
        if (now.points == 1) {
            return NO;
        }
        remember();
        now.loseLastPoint();
        return now.points;
    }

    // ---- filling, proofs

    public int fill(int most) {
        if (most < 1 || most > MOST_TRIES) {
            return BAD;
        }
        filling.begin(now);
        int end = filling.goOn(most);
        if (end == TOO_MANY) {
            return SPENT;
        }
        latestTries = filling.done;
        if (end == ENDED) {
            return 0;
        }
        changeTo(filling.board);
        return 1;
    }

    public int tries() {
        return latestTries;
    }

    public int prove() {
        filling.begin(now);
        return filling.isOver() ? NO : proof.make(filling);
    }

    public int row(int i, int what) {
        if (proof.size == 0) {
            return NO;
        }
        if (i < 0 || i >= proof.size || what < 0 || what > 2) {
            return BAD;
        }
        return what == 0 ? proof.joins[i] : what == 1 ? proof.tones[i] : proof.bits[i];
    }

    public int forge(int i, int points) {
        if (proof.size == 0) {
            return NO;
        }
        if (i < 0 || i >= proof.size || points < 0 || points > MOST_BITS) {
            return BAD;
        }
        int before = proof.bits[i];
        proof.bits[i] = points;
        return before;
    }

    public int check() {
        if (proof.size == 0) {
            return NO;
        }
        filling.begin(now);
        return proof.firstFault(filling);
    }

    // ---- walks

    public int step(int n) {
        if (n < 1 || n > MOST_STEPS) {
            return BAD;
        }
        if (now.bareCount() != 0) {
            return NO;
        }
        remember();
        return walker.walk(now, n);
    }

    public int undo() {
        if (history.size == 0) {
            return NO;
        }
        history.giveBack(now);
        proof.forget();
        return history.size;
    }

    public int count(int what) {
        switch (what) {
            case 0:
                return now.points;
            case 1:
                return now.colours;
            case 2:
                return now.bareCount();
            case 3:
                return finder.clashes(now);
            case 4:
                return history.size;
            case 5:
                return proof.size;
            default:
                return BAD;
        }
    }

    // ---- what several calls share

    /** To be called ahead of each CHANGE, once it is sure not to be refused. */
    private void remember() {
        history.keep(now);
        proof.forget();
    }

    /**
     * NONE is not among the answers of calls that are refused, so that listed and put do a CHANGE with
     * it too: to what stands already.
     */
    private void changeTo(Net other) {
        remember();
        now.become(other);
    }

    private boolean isListLarge(int n) {
        return power(now.colours, n * (n - 1) / 2) > LONGEST_LIST;
    }

    private int whyNoPut() {
        if (now.points >= MOST_POINTS) {
            return FULL;
        }
        if (power(now.colours, now.points) > LONGEST_LIST) {
            return LARGE;
        }
        return now.bareCount() != 0 || finder.hasAny(now) ? NO : 0;
    }

    private static int numberOf(int i, int j) {
        return i < j ? j * (j - 1) / 2 + i : i * (i - 1) / 2 + j;
    }

    /** The POINTS, as bits, that are greater than one. */
    private static int above(int point) {
        return -2 << point;
    }

    /** Stops growing as soon as it is above the longest list, so that it can't wrap around. */
    private static int power(int base, int exponent) {
        int product = 1;
        for (int i = 0; i < exponent && product <= LONGEST_LIST; i++) {
            product *= base;
        }
        return product;
    }

    private static int choose(int from, int some) {
        int ways = 1;
        for (int i = 0; i < some; i++) {
            ways = ways * (from - i) / (i + 1);
        }
        return ways;
    }

    /** NET, TARGETS and COLOURING. JOINS of POINTS that are not there are always BARE. */
    private static final class Net {
        int points = 6;
        int colours = 2;
        final int[] kinds = new int[MOST_COLOURS];
        final int[] sizes = new int[MOST_COLOURS];
        final int[] tones = new int[MOST_JOINS];
        /** What `tones` says once more, by COLOUR and POINT: the POINTS, as bits, that it is joined with in it. */
        private final int[] nears = new int[MOST_COLOURS * MOST_POINTS];

        Net() {
            Arrays.fill(tones, BARE);
        }

        void become(Net other) {
            points = other.points;
            colours = other.colours;
            System.arraycopy(other.kinds, 0, kinds, 0, MOST_COLOURS);
            System.arraycopy(other.sizes, 0, sizes, 0, MOST_COLOURS);
            System.arraycopy(other.tones, 0, tones, 0, MOST_JOINS);
            System.arraycopy(other.nears, 0, nears, 0, nears.length);
        }

        void layOut(int newPoints, int newColours) {
            points = newPoints;
            colours = newColours;
            for (int colour = newColours; colour < MOST_COLOURS; colour++) {
                kinds[colour] = NOTHING;
                sizes[colour] = 0;
            }
            Arrays.fill(tones, BARE);
            Arrays.fill(nears, 0);
        }

        int joinCount() {
            return points * (points - 1) / 2;
        }

        int pointBits() {
            return (1 << points) - 1;
        }

        int copyLength(int colour) {
            return sizes[colour] + POINTS_BEYOND[kinds[colour]];
        }

        boolean hasPoint(int point) {
            return point >= 0 && point < points;
        }

        boolean hasJoin(int i, int j) {
            return hasPoint(i) && hasPoint(j) && i != j;
        }

        boolean hasColour(int colour) {
            return colour >= 0 && colour < colours;
        }

        boolean hasColourOrBare(int colour) {
            return colour == BARE || hasColour(colour);
        }

        /** For each POINT the POINTS, as bits, that it is joined with in that COLOUR. */
        void copyNears(int colour, int[] into) {
            System.arraycopy(nears, colour * MOST_POINTS, into, 0, MOST_POINTS);
        }

        void give(int join, int colour) {
            if (tones[join] != BARE) {
                flip(join, tones[join]);
            }
            if (colour != BARE) {
                flip(join, colour);
            }
            tones[join] = colour;
        }

        private void flip(int join, int colour) {
            nears[colour * MOST_POINTS + LOW[join]] ^= 1 << HIGH[join];
            nears[colour * MOST_POINTS + HIGH[join]] ^= 1 << LOW[join];
        }

        int bareCount() {
            int sum = 0;
            for (int join = 0; join < joinCount(); join++) {
                if (tones[join] == BARE) {
                    sum++;
                }
            }
            return sum;
        }

        void loseLastPoint() {
            for (int other = 0; other < points - 1; other++) {
                give(numberOf(other, points - 1), BARE);
            }
            points--;
        }

        int turnCount() {
            return power(colours, points / 2);
        }

        void turn(int number) {
            int digits = number;
            for (int distance = 1; distance <= points / 2; distance++) {
                for (int join = 0; join < joinCount(); join++) {
                    int apart = HIGH[join] - LOW[join];
                    if (Math.min(apart, points - apart) == distance) {
                        give(join, digits % colours);
                    }
                }
                digits /= colours;
            }
        }
    }

    /** Goes through the COPIES of a COLOUR's TARGET, POINT by POINT, so that they come in their order. */
    private static final class Finder {
        /** A COPY, as far as it is put together; whole behind findFirst, if there is one. */
        final int[] row = new int[LONGEST_COPY];
        int length;
        private int kind;
        private int points;
        private final int[] near = new int[MOST_POINTS];

        boolean hasAny(Net net) {
            for (int colour = 0; colour < net.colours; colour++) {
                if (findFirst(net, colour)) {
                    return true;
                }
            }
            return false;
        }

        int clashes(Net net) {
            int sum = 0;
            for (int colour = 0; colour < net.colours; colour++) {
                sum += howMany(net, colour);
            }
            return sum;
        }

        boolean findFirst(Net net, int colour) {
            lookAt(net, colour);
            return kind != NOTHING && findFrom(0, net.pointBits(), 0);
        }

        int howMany(Net net, int colour) {
            lookAt(net, colour);
            return kind == NOTHING ? 0 : countFrom(0, net.pointBits(), 0);
        }

        int rowBits() {
            int bits = 0;
            for (int i = 0; i < length; i++) {
                bits |= 1 << row[i];
            }
            return bits;
        }

        private void lookAt(Net net, int colour) {
            kind = net.kinds[colour];
            length = net.copyLength(colour);
            points = net.points;
            net.copyNears(colour, near);
        }

        private int countFrom(int depth, int candidates, int used) {
            if (isRestFree(depth)) {
                return choose(Integer.bitCount(candidates), length - depth);
            }
            int sum = 0;
            for (int point = 0; point < points; point++) {
                if ((candidates >> point & 1) == 1) {
                    row[depth] = point;
                    int taken = used | 1 << point;
                    sum += countFrom(depth + 1, candidatesAfter(depth, candidates, taken), taken);
                }
            }
            return sum;
        }

        private boolean findFrom(int depth, int candidates, int used) {
            if (isRestFree(depth)) {
                return takeLeast(depth, candidates);
            }
            for (int point = 0; point < points; point++) {
                if ((candidates >> point & 1) == 1) {
                    row[depth] = point;
                    int taken = used | 1 << point;
                    if (findFrom(depth + 1, candidatesAfter(depth, candidates, taken), taken)) {
                        return true;
                    }
                }
            }
            return false;
        }

        /** Whether all POINTS from here on may be any of the candidates, rising. */
        private boolean isRestFree(int depth) {
            return depth >= length - 1 || kind == STAR && depth >= 1 || kind == BOOK && depth >= 2;
        }

        private boolean takeLeast(int depth, int candidates) {
            int next = depth;
            for (int point = 0; point < points && next < length; point++) {
                if ((candidates >> point & 1) == 1) {
                    row[next] = point;
                    next++;
                }
            }
            return next >= length;
        }

        private int candidatesAfter(int depth, int candidates, int taken) {
            int last = row[depth];
            boolean lastComes = depth + 1 == length - 1;
            switch (kind) {
                case ALL:
                    return candidates & near[last] & above(last);
                case RING:
                    int onRing = near[last] & above(row[0]) & ~taken;
                    return lastComes ? onRing & near[row[0]] & above(row[1]) : onRing;
                case STAR:
                    return near[last];
                case BOOK:
                    return depth == 0 ? near[last] & above(last) : near[last] & near[row[0]];
                case PATH:
                    return lastComes ? near[last] & ~taken & above(row[0]) : near[last] & ~taken;
                default:
                    return 0;
            }
        }
    }

    /**
     * Counts the COPIES in which one JOIN is, outward from it: where a net was CLEAR ahead of a TRY, or
     * one JOIN gets another COLOUR, these are all that matter, and far fewer to go through than all.
     */
    private static final class Outward {
        private int points;
        private final int[] near = new int[MOST_POINTS];

        int howMany(Net net, int join) {
            if (net.tones[join] == BARE) {
                return 0;
            }
            lookAt(net, join);
            return countFrom(net, join);
        }

        /** Whether there is a COPY of just these POINTS, as bits, in which that JOIN is. */
        boolean isCopyOfJust(Net net, int join, int bits) {
            int tone = net.tones[join];
            int both = 1 << LOW[join] | 1 << HIGH[join];
            if (tone == BARE || (bits & both) != both || Integer.bitCount(bits) != net.copyLength(tone)) {
                return false;
            }
            lookAt(net, join);
            for (int point = 0; point < MOST_POINTS; point++) {
                near[point] &= bits;
            }
            return countFrom(net, join) > 0;
        }

        private void lookAt(Net net, int join) {
            points = net.points;
            net.copyNears(net.tones[join], near);
        }

        private int countFrom(Net net, int join) {
            int low = LOW[join];
            int high = HIGH[join];
            int size = net.sizes[net.tones[join]];
            switch (net.kinds[net.tones[join]]) {
                case ALL:
                    return countAllJoined(near[low] & near[high], size - 2);
                case RING:
                    return countBetween(low, high, size - 2, 1 << low | 1 << high);
                case STAR:
                    return countStars(low, size) + countStars(high, size);
                case BOOK:
                    return countBooks(low, high, size);
                case PATH:
                    return countPaths(low, high, size - 2);
                default:
                    return 0;
            }
        }

        private int countAllJoined(int candidates, int missing) {
            if (missing <= 1) {
                return missing <= 0 ? 1 : Integer.bitCount(candidates);
            }
            int sum = 0;
            for (int point = 0; point < points; point++) {
                if ((candidates >> point & 1) == 1) {
                    sum += countAllJoined(candidates & near[point] & above(point), missing - 1);
                }
            }
            return sum;
        }

        /** Ways from one POINT to another one with so many between them. */
        private int countBetween(int from, int goal, int between, int taken) {
            int candidates = near[from] & ~taken;
            if (between <= 1) {
                return Integer.bitCount(candidates & near[goal]);
            }
            int sum = 0;
            for (int point = 0; point < points; point++) {
                if ((candidates >> point & 1) == 1) {
                    sum += countBetween(point, goal, between - 1, taken | 1 << point);
                }
            }
            return sum;
        }

        private int countStars(int middle, int size) {
            return choose(Integer.bitCount(near[middle]) - 1, size - 1);
        }

        /** The JOIN is that of the two, or that of one of the two and one of the others. */
        private int countBooks(int low, int high, int size) {
            int thirds = near[low] & near[high];
            int sum = choose(Integer.bitCount(thirds), size);
            for (int third = 0; third < points; third++) {
                if ((thirds >> third & 1) == 1) {
                    sum += choose(Integer.bitCount(near[low] & near[third]) - 1, size - 1);
                    sum += choose(Integer.bitCount(near[high] & near[third]) - 1, size - 1);
                }
            }
            return sum;
        }

        private int countPaths(int low, int high, int missing) {
            int sum = 0;
            for (int beyondLow = 0; beyondLow <= missing; beyondLow++) {
                sum += countArms(low, beyondLow, high, missing - beyondLow, 1 << low | 1 << high);
            }
            return sum;
        }

        /** Ways to lengthen a path by so many POINTS at its one end, then by so many at its other end. */
        private int countArms(int end, int missing, int otherEnd, int missingThere, int taken) {
            if (missing <= 0) {
                return missingThere <= 0 ? 1 : countArms(otherEnd, missingThere, end, 0, taken);
            }
            int candidates = near[end] & ~taken;
            if (missing == 1 && missingThere <= 0) {
                return Integer.bitCount(candidates);
            }
            int sum = 0;
            for (int point = 0; point < points; point++) {
                if ((candidates >> point & 1) == 1) {
                    sum += countArms(point, missing - 1, otherEnd, missingThere, taken | 1 << point);
                }
            }
            return sum;
        }
    }

    /** The TRIES of a FILLING on a board of its own. */
    private static final class Filling {
        final Net board = new Net();
        int done;
        private final Finder finder;
        private final Outward outward;
        private final int[] open = new int[MOST_JOINS];
        private int openCount;
        private int depth;
        private boolean over;

        Filling(Finder finder, Outward outward) {
            this.finder = finder;
            this.outward = outward;
        }

        void begin(Net from) {
            board.become(from);
            beginOnBoard();
        }

        void beginList(Net from, int points) {
            board.become(from);
            board.layOut(points, from.colours);
            beginOnBoard();
        }

        /** The JOINS of one more POINT are the last ones, by the other POINTS, and BARE. */
        void beginPut(Net from) {
            board.become(from);
            board.points++;
            beginOnBoard();
        }

        private void beginOnBoard() {
            openCount = 0;
            for (int join = 0; join < board.joinCount(); join++) {
                if (board.tones[join] == BARE) {
                    open[openCount] = join;
                    openCount++;
                }
            }
            depth = 0;
            done = 0;
            over = finder.hasAny(board);
        }

        /** Whether it ends ahead of the first TRY: with a COPY, or with no JOIN to be tried. */
        boolean isOver() {
            return over || openCount == 0;
        }

        int join() {
            return open[depth];
        }

        int tone() {
            return board.tones[open[depth]];
        }

        /** The next TRY at this JOIN, or at one ahead of it; false, if there is none more. */
        boolean nextTry() {
            for (int back = 0; back <= openCount; back++) {
                if (depth < 0 || depth >= openCount) {
                    return false;
                }
                int tone = tone() + 1;
                if (tone < board.colours) {
                    board.give(open[depth], tone);
                    return true;
                }
                board.give(open[depth], BARE);
                depth--;
            }
            return false;
        }

        /** On to the next JOIN that is BARE; false, if there is none. */
        boolean goDeeper() {
            if (depth + 1 >= openCount) {
                return false;
            }
            depth++;
            return true;
        }

        /** To the next one that is WHOLE and CLEAR, with at most so many TRIES since the beginning. */
        int goOn(int most) {
            if (over) {
                return ENDED;
            }
            if (openCount == 0) {
                over = true;
                return FOUND;
            }
            for (int i = 0; i <= ALL_TRIES; i++) {
                if (!nextTry()) {
                    over = true;
                    return ENDED;
                }
                if (done >= most) {
                    return TOO_MANY;
                }
                done++;
                if (outward.howMany(board, join()) == 0 && !goDeeper()) {
                    return FOUND;
                }
            }
            return TOO_MANY;
        }

        int countAll() {
            int sum = 0;
            while (sum < LONGEST_LIST && goOn(ALL_TRIES) == FOUND) {
                sum++;
            }
            return sum;
        }

        boolean reach(int number) {
            if (number >= LONGEST_LIST) {
                return false;
            }
            for (int i = 0; i <= number; i++) {
                if (goOn(ALL_TRIES) != FOUND) {
                    return false;
                }
            }
            return true;
        }
    }

    /**
     * Seeks THE FORM by giving out the numbers 0, 1, .. in turn: the JOINS to number d are settled as
     * soon as it is given, and what is behind the best by then is left.
     */
    private static final class Forms {
        final int[] best = new int[MOST_FORM_JOINS];
        int ways;
        private int points;
        private final int[] tones = new int[MOST_FORM_JOINS];
        private final int[] pointOf = new int[MOST_FORM_POINTS];
        /** The JOINS to numbers above this one are not settled in the best. */
        private int settled;
        private boolean stopsAtLess;
        private boolean isLess;

        void seek(Net net) {
            begin(net, false);
        }

        /** One COLOURING of all that are ALIKE is the first of them, so these are as many as FORMS. */
        int countFirst(Filling filling) {
            int sum = 0;
            for (int i = 0; i < LONGEST_LIST; i++) {
                if (filling.goOn(ALL_TRIES) != FOUND) {
                    return sum;
                }
                begin(filling.board, true);
                sum += isLess ? 0 : 1;
            }
            return sum;
        }

        private void begin(Net net, boolean stopping) {
            stopsAtLess = stopping;
            isLess = false;
            ways = 0;
            if (net.points > MOST_FORM_POINTS) {
                return;
            }
            points = net.points;
            settled = points - 1;
            System.arraycopy(net.tones, 0, tones, 0, net.joinCount());
            System.arraycopy(net.tones, 0, best, 0, net.joinCount());
            giveNumber(0, 0);
        }

        private void giveNumber(int number, int used) {
            if (number >= points) {
                ways++;
                return;
            }
            for (int point = 0; point < points; point++) {
                if ((used >> point & 1) == 0) {
                    pointOf[number] = point;
                    int order = compareJoinsTo(number);
                    if (order < 0) {
                        isLess = true;
                        settleJoinsTo(number);
                    }
                    if (isLess && stopsAtLess) {
                        return;
                    }
                    if (order <= 0) {
                        giveNumber(number + 1, used | 1 << point);
                    }
                }
            }
        }

        private int compareJoinsTo(int number) {
            if (number > settled) {
                return -1;
            }
            for (int other = 0; other < number; other++) {
                int order = Integer.compare(toneOf(other, number), best[numberOf(other, number)]);
                if (order != 0) {
                    return order;
                }
            }
            return 0;
        }

        private void settleJoinsTo(int number) {
            for (int other = 0; other < number; other++) {
                best[numberOf(other, number)] = toneOf(other, number);
            }
            settled = number;
            ways = 0;
        }

        private int toneOf(int number, int otherNumber) {
            return tones[numberOf(pointOf[number], pointOf[otherNumber])];
        }
    }

    /** Rows, one for each TRY; none, if its size is 0, as a PROOF has always rows. */
    private static final class Proof {
        final int[] joins = new int[MOST_ROWS];
        final int[] tones = new int[MOST_ROWS];
        final int[] bits = new int[MOST_ROWS];
        int size;
        private final Finder finder;
        private final Outward outward;

        Proof(Finder finder, Outward outward) {
            this.finder = finder;
            this.outward = outward;
        }

        void forget() {
            size = 0;
        }

        /**
         * Writes over the rows that there are: while a PROOF stands, nothing has changed since it was
         * made, so that it is made again and not refused.
         */
        int make(Filling filling) {
            for (int i = 0; i <= MOST_ROWS; i++) {
                if (!filling.nextTry()) {
                    size = i;
                    return i;
                }
                if (i == MOST_ROWS) {
                    return FULL;
                }
                boolean clashes = finder.findFirst(filling.board, filling.tone());
                joins[i] = filling.join();
                tones[i] = filling.tone();
                bits[i] = clashes ? finder.rowBits() : 0;
                if (!clashes && !filling.goDeeper()) {
                    return NO;
                }
            }
            return FULL;
        }

        int firstFault(Filling filling) {
            for (int i = 0; i < size; i++) {
                if (!filling.nextTry() || !isAsTold(i, filling)) {
                    return 1 + i;
                }
            }
            return filling.nextTry() ? 1 + size : 0;
        }

        private boolean isAsTold(int i, Filling filling) {
            if (joins[i] != filling.join() || tones[i] != filling.tone()) {
                return false;
            }
            if (bits[i] == 0) {
                return filling.goDeeper();
            }
            return outward.isCopyOfJust(filling.board, joins[i], bits[i]);
        }
    }

    /** Does STEPS. */
    private static final class Walker {
        private final Outward outward;
        private int bestJoin;
        private int bestTone;
        private int bestGain;

        Walker(Outward outward) {
            this.outward = outward;
        }

        int walk(Net net, int most) {
            for (int i = 0; i < most; i++) {
                seekBest(net);
                if (bestGain == 0) {
                    return i;
                }
                net.give(bestJoin, bestTone);
            }
            return most;
        }

        /** Only COPIES in which the JOIN is come or go when it gets another COLOUR. */
        private void seekBest(Net net) {
            bestGain = 0;
            for (int join = 0; join < net.joinCount(); join++) {
                int before = net.tones[join];
                int copiesBefore = outward.howMany(net, join);
                for (int colour = 0; colour < net.colours; colour++) {
                    net.give(join, colour);
                    int gain = copiesBefore - outward.howMany(net, join);
                    if (gain > bestGain) {
                        bestJoin = join;
                        bestTone = colour;
                        bestGain = gain;
                    }
                }
                net.give(join, before);
            }
        }
    }

    /** The latest CHANGES, each as what stood ahead of it. */
    private static final class History {
        int size;
        private final Net[] kept = new Net[MOST_KEPT];
        private int next;

        History() {
            for (int i = 0; i < MOST_KEPT; i++) {
                kept[i] = new Net();
            }
        }

        void keep(Net net) {
            kept[next].become(net);
            next = (next + 1) % MOST_KEPT;
            size = Math.min(size + 1, MOST_KEPT);
        }

        void giveBack(Net net) {
            if (size > 0) {
                next = (next + MOST_KEPT - 1) % MOST_KEPT;
                net.become(kept[next]);
                size--;
            }
        }
    }
}
