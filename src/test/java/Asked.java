import java.util.function.IntSupplier;

/**
 * What the tests with answers written by hand share: how an answer is held against the one that is
 * due, and benches that several need.
 */
abstract class Asked {
    static final int BAD = -1000000001, NO = -1000000002, FULL = -1000000003, LARGE = -1000000004, SPENT = -1000000006, NONE = -1000000005;
    static final int ALL = 1, RING = 2, STAR = 3, BOOK = 4, PATH = 5;
    static final int MIN = Integer.MIN_VALUE, MAX = Integer.MAX_VALUE;
    static final int MOST_KEPT = 6;

    private static String place = "";
    private static int asked;
    private static int wrong;

    // ---- how answers are held against what is due

    static void at(String where) {
        place = where;
    }

    static int askedSoFar() {
        return asked;
    }

    static void fault(String told) {
        wrong++;
        System.out.println(place + ": " + told);
    }

    static void endWith(String of) {
        System.out.println(wrong == 0 ? asked + " answers on " + of + " are as due" : wrong + " are not as due");
        if (wrong != 0) {
            System.exit(1);
        }
    }

    static void due(String call, int got, int want) {
        asked++;
        if (got != want) {
            fault(call + " answered " + got + ", due is " + want);
        }
    }

    static void due(KeptColours x, String call, int want) {
        due(call, Called.call(x, call), want);
    }

    static void dueText(String of, String got, String want) {
        asked++;
        if (!got.equals(want)) {
            fault(of + " is " + got + ", due is " + want);
        }
    }

    static void dueColours(String when, KeptColours x, String want) {
        dueText("the COLOURING behind " + when, coloursOf(x), want);
    }

    static void dueCopy(String when, KeptColours x, int colour, int... want) {
        for (int i = 0; i < want.length; i++) {
            due(when + ": copy(" + colour + ", " + i + ")", x.copy(colour, i), want[i]);
        }
        due(when + ": copy behind its end", x.copy(colour, want.length), NONE);
    }

    static void dueForm(String of, KeptColours x, String want) {
        StringBuilder got = new StringBuilder();
        for (int k = 0; k < want.length(); k++) {
            got.append(toneText(x.form(k)));
        }
        dueText("THE FORM of " + of, got.toString(), want);
    }

    static void dueRow(KeptColours x, int i, int join, int colour, int points) {
        due("row(" + i + ", 0)", x.row(i, 0), join);
        due("row(" + i + ", 1)", x.row(i, 1), colour);
        due("row(" + i + ", 2)", x.row(i, 2), points);
    }

    /** A call that must leave all as it was, be it refused or only asked. */
    static void keeps(KeptColours x, String call, int want, IntSupplier asking) {
        String before = stateOf(x);
        due(call, asking.getAsInt(), want);
        dueText("what " + call + " must leave", stateOf(x), before);
    }

    /** The same, on a bench made by these calls; what undo() takes back then must be left too. */
    static void keeps(String calls, String call, int want) {
        KeptColours x = Called.bench(calls);
        due(x, call, want);
        dueText("what " + call + " must leave", stateOf(x), stateOf(Called.bench(calls)));
        due(call + " once more", Called.call(x, call), want);
        for (int back = 1; back <= MOST_KEPT + 1; back++) {
            KeptColours called = Called.bench(calls);
            Called.call(called, call);
            dueText("what " + call + " leaves for undo() " + back, undone(called, back), undone(Called.bench(calls), back));
        }
    }

    private static String undone(KeptColours x, int times) {
        int answer = 0;
        for (int i = 0; i < times; i++) {
            answer = x.undo();
        }
        return answer + ": " + stateOf(x);
    }

    /** A CHANGE, which must be kept, end the PROOF, and be taken back whole. */
    static void changes(KeptColours x, String call, int want, IntSupplier asking) {
        String before = netOf(x);
        int kept = x.count(4);
        due(call, asking.getAsInt(), want);
        String after = netOf(x);
        due(call + " then count(4)", x.count(4), Math.min(MOST_KEPT, kept + 1));
        due(call + " then count(5)", x.count(5), 0);
        due(call + " then undo()", x.undo(), Math.min(MOST_KEPT - 1, kept));
        dueText(call + " taken back", netOf(x), before);
        due(call + " once more", asking.getAsInt(), want);
        dueText(call + " done once more", netOf(x), after);
    }

    static void changes(String calls, String call, int want) {
        KeptColours x = Called.bench(calls);
        changes(x, call, want, () -> Called.call(x, call));
    }

    /** A CHANGE with which NET, TARGETS and COLOURING are then what they were. */
    static void changesToSame(KeptColours x, String call, int want, IntSupplier asking) {
        String before = netOf(x);
        changes(x, call, want, asking);
        dueText("NET, TARGETS and COLOURING behind " + call, netOf(x), before);
    }

    static void changesToSame(String calls, String call, int want) {
        KeptColours x = Called.bench(calls);
        changesToSame(x, call, want, () -> Called.call(x, call));
    }

    // ---- what can be seen of a bench

    static String netOf(KeptColours x) {
        StringBuilder told = new StringBuilder(x.count(0) + "/" + x.count(1) + " ");
        for (int c = 0; c < 3; c++) {
            told.append(x.aim(c, 0)).append(':').append(x.aim(c, 1)).append(' ');
        }
        return told + coloursOf(x);
    }

    static String coloursOf(KeptColours x) {
        StringBuilder told = new StringBuilder();
        for (int j = 1; j < x.count(0); j++) {
            for (int i = 0; i < j; i++) {
                told.append(toneText(x.colour(i, j)));
            }
        }
        return told.toString();
    }

    private static String toneText(int tone) {
        return tone == -1 ? "-" : String.valueOf(tone);
    }

    static String stateOf(KeptColours x) {
        StringBuilder told = new StringBuilder(netOf(x) + " kept " + x.count(4) + " tries " + x.tries() + " rows ");
        int rows = x.count(5);
        for (int i = 0; i < rows; i++) {
            told.append(x.row(i, 0)).append('.').append(x.row(i, 1)).append('.').append(x.row(i, 2)).append(' ');
        }
        return told.toString();
    }

    // ---- benches that several need

    static KeptColours bench(int n, int colours) {
        return Called.bench("net(" + n + ", " + colours + ")");
    }

    /** COLOURS by the JOINS' numbers, '-' for BARE. */
    static KeptColours bench(int n, int colours, String tones) {
        return Called.bench(painted(n, colours, tones));
    }

    /** The calls that make it. */
    static String painted(int n, int colours, String tones) {
        StringBuilder calls = new StringBuilder("net(" + n + ", " + colours + ")");
        for (int j = 1, k = 0; j < n; j++) {
            for (int i = 0; i < j; i++, k++) {
                if (tones.charAt(k) != '-') {
                    calls.append("; paint(" + i + ", " + j + ", " + tones.charAt(k) + ")");
                }
            }
        }
        return calls.toString();
    }

    /** All JOINS in COLOUR 0, and a TARGET for it. */
    static KeptColours full(int n, int kind, int size) {
        KeptColours x = bench(n, 2);
        x.turned(0);
        x.target(0, kind, size);
        return x;
    }

    /** Some JOINS in COLOUR 0, each told by its two ends, and a TARGET for it. */
    static KeptColours joined(int n, int kind, int size, int... ends) {
        KeptColours x = bench(n, 2);
        x.target(0, kind, size);
        for (int k = 0; k + 1 < ends.length; k += 2) {
            x.paint(ends[k], ends[k + 1], 0);
        }
        return x;
    }

    static String noTriangles(int n, int colours) {
        String calls = "net(" + n + ", " + colours + "); target(0, 1, 3); target(1, 1, 3)";
        return colours == 3 ? calls + "; target(2, 1, 3)" : calls;
    }

    /** 4 POINTS, no path of 3 in either COLOUR: 10 TRIES find none. */
    static final String PROVED = "net(4, 2); target(0, 5, 3); target(1, 5, 3); prove()";

    static int falling(int n, int m) {
        return m == 0 ? 1 : n * falling(n - 1, m - 1);
    }

    static int choose(int n, int m) {
        return falling(n, m) / falling(m, m);
    }
}
