import java.util.ArrayList;
import java.util.List;
import java.util.Random;

/**
 * Long runs of drawn calls, each answer held against that of PlainColours, and all that can be cheaply
 * seen of the state compared after each call. The draws are the same each time; how many runs, and the
 * first one's number, may be given.
 */
public final class AgainstPlainTest {
    private static final String[] NAMES = {
        "net", "target", "paint", "colour", "aim", "isOf", "clear", "copies", "copy", "degree", "triangles", "least",
        "turned", "turns", "list", "listed", "form", "same", "puts", "put", "drop", "fill", "tries", "prove", "row",
        "forge", "check", "step", "undo", "count"};

    /** What a run is mostly about: how often each call is drawn, and how many of its values are wrong ones. */
    private enum Mode {
        MIXED(6, new int[] {
            5, 14, 14, 6, 3, 3, 4, 6, 8, 4, 3, 1,
            6, 2, 1, 3, 4, 3, 3, 6, 4, 10, 4, 8, 6,
            10, 10, 5, 8, 12}),
        PROOFS(30, new int[] {
            4, 14, 10, 1, 0, 0, 1, 0, 1, 0, 0, 0,
            0, 0, 0, 0, 1, 1, 0, 0, 0, 2, 1, 40, 30,
            60, 50, 0, 3, 4}),
        COPIES(40, new int[] {
            2, 20, 20, 2, 0, 0, 4, 30, 60, 2, 4, 0,
            16, 3, 0, 0, 0, 0, 2, 6, 2, 4, 1, 0, 0,
            0, 0, 10, 6, 12});

        final int oneWrongIn;
        final int[] weights;

        Mode(int oneWrongIn, int[] weights) {
            this.oneWrongIn = oneWrongIn;
            this.weights = weights;
        }
    }

    private final Mode mode;
    private final Random random;
    private final KeptColours x = new KeptColours();
    private final PlainColours plain = new PlainColours();
    private final List<String> calls = new ArrayList<>();

    private AgainstPlainTest(Mode mode, long seed) {
        this.mode = mode;
        random = new Random(seed);
    }

    public static void main(String[] args) {
        int runs = args.length > 0 ? Integer.parseInt(args[0]) : 300;
        long first = args.length > 1 ? Long.parseLong(args[1]) : 1;
        int wrong = 0;
        for (Mode mode : Mode.values()) {
            for (long seed = first; seed < first + runs && wrong < 3; seed++) {
                AgainstPlainTest test = new AgainstPlainTest(mode, seed);
                if (!test.run(120)) {
                    wrong++;
                    System.out.println(mode + " " + seed + " went wrong at the last of");
                    test.calls.forEach(System.out::println);
                }
            }
        }
        System.out.println(wrong == 0 ? runs + " runs of each mode are as due" : "not as due");
        if (wrong != 0) {
            System.exit(1);
        }
    }

    private boolean run(int length) {
        int total = 0;
        for (int weight : mode.weights) {
            total += weight;
        }
        for (int i = 0; i < length; i++) {
            int draw = random.nextInt(total);
            int name = 0;
            while (draw >= mode.weights[name]) {
                draw -= mode.weights[name];
                name++;
            }
            if (!callBoth(NAMES[name])) {
                return false;
            }
        }
        return true;
    }

    private boolean callBoth(String name) {
        int[] values = drawValues(name);
        int got = Called.named(x, name, values);
        int due = Called.named(plain, name, values);
        calls.add("  " + Called.text(name, values) + " answered " + got + (got == due ? "" : ", due is " + due));
        return got == due && sameState();
    }

    private boolean sameState() {
        boolean same = x.tries() == plain.tries();
        for (int what : new int[] {0, 1, 2, 4, 5}) {
            same &= x.count(what) == plain.count(what);
        }
        for (int c = 0; c < 3; c++) {
            same &= x.aim(c, 0) == plain.aim(c, 0) && x.aim(c, 1) == plain.aim(c, 1);
        }
        for (int j = 0; j < 12; j++) {
            for (int i = 0; i < j; i++) {
                same &= x.colour(i, j) == plain.colour(i, j);
            }
        }
        if (!same) {
            calls.add("  and the state differs then");
        }
        return same;
    }

    /** Mostly what is right; else a little below, a little above or far away. */
    private int about(int low, int high) {
        if (random.nextInt(mode.oneWrongIn) > 0) {
            return low + random.nextInt(Math.max(0, high - low) + 1);
        }
        int draw = random.nextInt(8);
        return draw == 0 ? Integer.MIN_VALUE : draw == 1 ? Integer.MAX_VALUE : draw < 5 ? low - 1 : high + 1;
    }

    private boolean oneIn(int some) {
        return random.nextInt(some) == 0;
    }

    private int[] drawValues(String name) {
        int n = x.count(0);
        int colours = x.count(1);
        int rows = x.count(5);
        switch (name) {
            case "net": return drawNet();
            case "target": return drawTarget(colours);
            case "paint": return new int[] {about(0, n - 1), about(0, n - 1), mode == Mode.PROOFS ? about(0, colours - 1) : about(-1, colours - 1)};
            case "colour": return new int[] {about(0, n - 1), about(0, n - 1)};
            case "aim": return new int[] {about(0, colours - 1), about(0, 1)};
            case "isOf": return new int[] {about(0, colours - 1), about(0, 6)};
            case "copies": return new int[] {about(0, colours - 1)};
            case "copy": return new int[] {about(0, colours - 1), about(0, 6)};
            case "degree": return new int[] {about(0, n - 1), about(-1, colours - 1)};
            case "least": return new int[] {about(1, 12)};
            case "turned": return new int[] {about(0, (int) Math.round(Math.pow(colours, n / 2)) - 1)};
            case "turns": return new int[] {about(0, 2)};
            case "list": return new int[] {oneIn(8) ? about(1, 12) : about(1, 4), about(0, 1)};
            case "listed": return new int[] {oneIn(12) ? about(1, 12) : about(1, 4), oneIn(3) ? about(0, 1000) : about(0, 20)};
            case "form": return new int[] {about(0, n * (n - 1) / 2)};
            case "put": return new int[] {oneIn(2) ? about(0, 80) : about(0, 3)};
            case "fill": return new int[] {oneIn(9) ? about(19999, 20000) : oneIn(3) ? about(1, 900) : about(1, 40)};
            case "row": return new int[] {about(0, rows - 1), about(0, 2)};
            case "forge": return drawForge(rows, n);
            case "step": return new int[] {about(1, 30)};
            case "count": return new int[] {about(0, 5)};
            default: return new int[0];
        }
    }

    private int[] drawNet() {
        int n = mode == Mode.COPIES ? about(6, oneIn(4) ? 12 : 9) : mode == Mode.MIXED && oneIn(3) ? about(1, 12) : about(3, 6);
        return new int[] {n, about(2, 3)};
    }

    /** In the runs of proofs small ones, so that a FILLING soon fails. */
    private int[] drawTarget(int colours) {
        int kind = mode == Mode.PROOFS ? about(1, 5) : about(0, 5);
        int least = kind == 0 ? 0 : kind == 2 ? 3 : kind == 1 || kind == 5 ? 2 : 1;
        int most = kind == 0 ? 0 : kind == 1 || kind == 3 ? 6 : kind == 4 ? 4 : 5;
        return new int[] {about(0, colours - 1), kind, about(least, mode == Mode.PROOFS ? Math.min(most, least + 1) : most)};
    }

    /** A row's own POINTS, those of one near by, none, or others. */
    private int[] drawForge(int rows, int n) {
        int i = about(0, rows - 1);
        if (oneIn(8) || rows == 0) {
            return new int[] {i, about(0, 4095)};
        }
        if (oneIn(4)) {
            return new int[] {i, 0};
        }
        if (oneIn(2)) {
            return new int[] {i, plain.row(Math.floorMod(i + random.nextInt(5) - 2, rows), 2)};
        }
        int bits = 0;
        for (int k = 0; k < 3 + random.nextInt(2); k++) {
            bits |= 1 << random.nextInt(n);
        }
        return new int[] {i, bits};
    }
}
