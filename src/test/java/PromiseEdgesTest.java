import java.io.IOException;

/**
 * The sentences of the document's promises 1 to 31, each with a test of its own at the edges that it
 * names: the least and the greatest that is taken and the first beyond each, nothing there and no room
 * left, and each refusal, with which one comes first and that it changes nothing.
 */
public final class PromiseEdgesTest extends Sentences {
    /** A bench with all that a refused call could spoil: six kept, TARGETS, COLOURS, TRIES, a PROOF. */
    private static final String BUSY = "target(0, 1, 4); fill(21); net(4, 3); net(4, 2); paint(0, 1, 1); paint(0, 1, 0); "
            + "target(0, 5, 3); target(1, 5, 3); prove()";

    public static void main(String[] args) throws IOException {
        open();
        newObject();
        net();
        target();
        paint();
        colour();
        aim();
        isOf();
        clear();
        copies();
        copy();
        degree();
        triangles();
        least();
        turned();
        turns();
        list();
        listed();
        form();
        same();
        puts();
        put();
        drop();
        fill();
        tries();
        prove();
        row();
        forge();
        check();
        step();
        undo();
        count();
        endSentences();
    }

    private static void allBad(String calls, String... bad) {
        for (String call : bad) {
            keeps(calls, call, BAD);
        }
    }

    // ---- the net

    private static void newObject() {
        under("Promise 1");
        sentence("6 POINTS, 2 COLOURS, all BARE, no TARGETS.", () -> {
            dueText("a new object", stateOf(new KeptColours()), "6/2 0:0 0:0 " + BAD + ":" + BAD + " --------------- kept 0 tries 0 rows ");
            due(new KeptColours(), "count(3)", 0);
            due(new KeptColours(), "undo()", NO);
        });
    }

    private static void net() {
        under("Promise 2");
        sentence("A new NET of n POINTS and C COLOURS, all BARE", () -> {
            KeptColours x = Called.bench("net(12, 3); turned(728); net(12, 3)");
            due(x, "count(2)", 66);
            due(x, "count(0)", 12);
            due(x, "count(1)", 3);
            due(x, "net(1, 2)", 0);
            due(x, "count(2)", 0);
            due(x, "count(0)", 1);
            due(x, "net(12, 2)", 66);
            due(x, "count(2)", 66);
        });
        sentence("(TARGETS stay; that of COLOUR 2 is NONE, if there is no such COLOUR)", () -> {
            String calls = "net(5, 3); target(0, 2, 3); target(1, 3, 6); target(2, 4, 4); ";
            dueText("with 3 COLOURS", netOf(Called.bench(calls + "net(2, 3)")), "2/3 2:3 3:6 4:4 -");
            dueText("with 2 COLOURS", netOf(Called.bench(calls + "net(2, 2)")), "2/2 2:3 3:6 " + BAD + ":" + BAD + " -");
            dueText("with 3 again", netOf(Called.bench(calls + "net(2, 2); net(2, 3)")), "2/3 2:3 3:6 0:0 -");
            dueText("taken back", netOf(Called.bench(calls + "net(2, 2); undo()")), "5/3 2:3 3:6 4:4 ----------");
        });
        sentence(": how many JOINS.", () -> {
            int[] joins = {0, 1, 3, 6, 10, 15, 21, 28, 36, 45, 55, 66};
            for (int n = 1; n <= 12; n++) {
                changes("", "net(" + n + ", 2)", joins[n - 1]);
                changes("", "net(" + n + ", 3)", joins[n - 1]);
            }
        });
        sentence("BAD.", () -> allBad(BUSY, "net(0, 2)", "net(13, 2)", "net(-1, 3)", "net(MIN, 2)", "net(MAX, 3)",
                "net(4, 1)", "net(4, 4)", "net(4, 0)", "net(4, -2)", "net(4, MIN)", "net(4, MAX)", "net(0, 1)", "net(13, 4)"));
    }

    private static void target() {
        under("Promise 3");
        sentence("The TARGET of a COLOUR: 0.", () -> {
            int[] least = {0, 2, 3, 1, 1, 2};
            int[] most = {0, 6, 5, 6, 4, 5};
            for (int kind = 0; kind <= 5; kind++) {
                for (int size : new int[] {least[kind], most[kind]}) {
                    for (int colour = 0; colour <= 2; colour++) {
                        KeptColours x = bench(3, 3);
                        due(x, "target(" + colour + ", " + kind + ", " + size + ")", 0);
                        for (int other = 0; other <= 2; other++) {
                            due(x, "aim(" + other + ", 0)", other == colour ? kind : 0);
                            due(x, "aim(" + other + ", 1)", other == colour ? size : 0);
                        }
                    }
                }
            }
            // A TARGET may have more POINTS than there are.
            due(bench(1, 2), "target(1, 3, 6)", 0);
            changes(BUSY, "target(1, 1, 6)", 0);
        });
        sentence("BAD: colour,", () -> {
            allBad(BUSY, "target(-1, 1, 3)", "target(2, 1, 3)", "target(3, 1, 3)", "target(MIN, 0, 0)", "target(MAX, 0, 0)");
            allBad("net(4, 3)", "target(3, 1, 3)", "target(-1, 0, 0)");
        });
        sentence("kind (0 .. 5),", () -> {
            allBad(BUSY, "target(0, -1, 0)", "target(0, 6, 3)", "target(0, 7, 3)", "target(0, MIN, 3)", "target(0, MAX, 3)");
            due(bench(4, 2), "target(0, 0, 0)", 0);
            due(bench(4, 2), "target(0, 5, 3)", 0);
        });
        sentence("size (0 with NONE).", () -> allBad(BUSY, "target(0, 0, 1)", "target(0, 0, -1)", "target(0, 0, 3)",
                "target(0, 1, 1)", "target(0, 1, 7)", "target(0, 2, 2)", "target(0, 2, 6)", "target(0, 3, 0)", "target(0, 3, 7)",
                "target(0, 4, 0)", "target(0, 4, 5)", "target(0, 5, 1)", "target(0, 5, 6)", "target(0, 1, MIN)", "target(0, 3, MAX)"));
    }

    private static void paint() {
        under("Promise 4");
        sentence("The JOIN of two POINTS has a COLOUR, or is BARE (-1): what it was (-1).", () -> {
            KeptColours x = bench(12, 3);
            int before = -1;
            for (int tone : new int[] {0, 2, 1, 1, -1, -1, 2}) {
                due(x, "paint(0, 1, " + tone + ")", before);
                due(x, "paint(11, 10, " + tone + ")", before);
                due(x, "colour(0, 1)", tone);
                due(x, "colour(10, 11)", tone);
                before = tone;
            }
            due(x, "count(2)", 64);
            changes(BUSY, "paint(0, 1, -1)", 0);
            changes(BUSY, "paint(3, 2, 1)", -1);
        });
        sentence("BAD.", () -> {
            allBad(BUSY, "paint(0, 0, 1)", "paint(3, 3, -1)", "paint(0, 4, 1)", "paint(4, 0, 1)", "paint(-1, 0, 1)", "paint(0, -1, 1)",
                    "paint(0, 1, 2)", "paint(0, 1, -2)", "paint(MIN, 1, 0)", "paint(1, MAX, 0)", "paint(0, 1, MIN)", "paint(0, 1, MAX)");
            allBad("net(1, 2)", "paint(0, 0, 0)", "paint(0, 1, 0)");
            allBad("net(12, 3)", "paint(11, 12, 0)", "paint(0, 1, 3)", "paint(11, 11, 0)");
        });
    }

    private static void colour() {
        under("Promise 5");
        sentence("The COLOUR of a JOIN (-1: BARE).", () -> {
            keeps(painted(3, 3, "02-"), "colour(0, 1)", 0);
            keeps(painted(3, 3, "02-"), "colour(1, 0)", 0);
            keeps(painted(3, 3, "02-"), "colour(0, 2)", 2);
            keeps(painted(3, 3, "02-"), "colour(2, 1)", -1);
            keeps("net(12, 2); turned(32)", "colour(11, 5)", 1);
            keeps("net(12, 2); turned(32)", "colour(11, 10)", 0);
        });
        sentence("BAD.", () -> {
            allBad(BUSY, "colour(0, 0)", "colour(3, 3)", "colour(0, 4)", "colour(4, 0)", "colour(-1, 0)", "colour(0, -1)",
                    "colour(MIN, MAX)", "colour(MAX, 0)", "colour(0, MIN)");
            allBad("net(1, 2)", "colour(0, 0)", "colour(0, 1)");
            allBad("net(12, 2)", "colour(0, 12)", "colour(12, 11)");
        });
    }

    private static void aim() {
        under("Promise 6");
        sentence("Of a COLOUR's TARGET: what 0 KIND, 1 size.", () -> {
            String calls = "net(5, 3); target(0, 3, 1); target(2, 3, 6)";
            keeps(calls, "aim(0, 0)", 3);
            keeps(calls, "aim(0, 1)", 1);
            keeps(calls, "aim(1, 0)", 0);
            keeps(calls, "aim(1, 1)", 0);
            keeps(calls, "aim(2, 0)", 3);
            keeps(calls, "aim(2, 1)", 6);
        });
        sentence("BAD.", () -> {
            allBad(BUSY, "aim(-1, 0)", "aim(2, 0)", "aim(2, 1)", "aim(0, -1)", "aim(0, 2)", "aim(MIN, 0)", "aim(MAX, 0)", "aim(0, MIN)", "aim(0, MAX)");
            allBad("net(5, 3)", "aim(3, 0)", "aim(2, 2)");
        });
    }

    private static void isOf() {
        under("Promise 7");
        sentence("Whether a COLOUR's TARGET is of a KIND (0 .. 6): 1, 0.", () -> {
            for (int kind = 0; kind <= 5; kind++) {
                String calls = "net(5, 3); target(2, " + kind + ", " + (kind == 0 ? 0 : 3) + ")";
                for (int asks = 0; asks <= 6; asks++) {
                    boolean row = kind == RING || kind == PATH;
                    keeps(calls, "isOf(2, " + asks + ")", asks == kind || asks == 6 && row ? 1 : 0);
                    keeps(calls, "isOf(0, " + asks + ")", asks == 0 ? 1 : 0);
                }
            }
        });
        sentence("BAD.", () -> {
            allBad(BUSY, "isOf(-1, 0)", "isOf(2, 0)", "isOf(0, -1)", "isOf(0, 7)", "isOf(MIN, 1)", "isOf(MAX, 6)", "isOf(0, MIN)", "isOf(0, MAX)");
            allBad("net(5, 3)", "isOf(3, 0)");
        });
    }

    // ---- copies

    private static void clear() {
        under("Promise 8");
        sentence("Whether it is CLEAR: 1, 0.", () -> {
            keeps("", "clear()", 1);
            keeps("net(1, 2); target(0, 1, 2); target(1, 1, 2)", "clear()", 1);
            keeps("net(2, 2); target(0, 1, 2); target(1, 1, 2)", "clear()", 1);
            keeps(painted(2, 2, "0") + "; target(0, 1, 2)", "clear()", 0);
            keeps(painted(2, 2, "0") + "; target(1, 1, 2)", "clear()", 1);
            keeps(painted(2, 3, "2") + "; target(2, 3, 1)", "clear()", 0);
            keeps(BUSY, "clear()", 1);
        });
    }

    private static void copies() {
        under("Promise 9");
        sentence("How many COPIES of a COLOUR's TARGET there are.", () -> {
            due("12 all joined, ALL 6", full(12, ALL, 6).copies(0), 924);
            due("12 all joined, RING 5", full(12, RING, 5).copies(0), 9504);
            due("12 all joined, STAR 6", full(12, STAR, 6).copies(0), 5544);
            due("12 all joined, BOOK 4", full(12, BOOK, 4).copies(0), 13860);
            due("12 all joined, PATH 5", full(12, PATH, 5).copies(0), 47520);
            int[] kinds = {ALL, RING, STAR, BOOK, PATH};
            int[] sizes = {6, 5, 6, 4, 5};
            for (int k = 0; k < kinds.length; k++) {
                due("KIND " + kinds[k] + " of one POINT", full(1, kinds[k], sizes[k]).copies(0), 0);
                due("KIND " + kinds[k] + " of two POINTS", full(2, kinds[k], sizes[k]).copies(0), 0);
                due("the other COLOUR", full(12, kinds[k], sizes[k]).copies(1), 0);
            }
            keeps(painted(3, 3, "222") + "; target(2, 1, 2)", "copies(2)", 3);
            keeps("net(12, 2)", "copies(0)", 0);
            keeps(BUSY, "copies(1)", 0);
        });
        sentence("BAD.", () -> {
            allBad(BUSY, "copies(-1)", "copies(2)", "copies(MIN)", "copies(MAX)");
            allBad("net(5, 3)", "copies(3)");
        });
    }

    private static void copy() {
        under("Promise 10");
        String last = "net(12, 3); paint(5, 8, 2); paint(6, 8, 2); paint(7, 8, 2); paint(8, 9, 2); paint(8, 10, 2); paint(8, 11, 2); target(2, 3, 6)";
        sentence("POINT i of the first COPY of a COLOUR's.", () -> {
            int[] star = {8, 5, 6, 7, 9, 10, 11};
            for (int i = 0; i < star.length; i++) {
                keeps(last, "copy(2, " + i + ")", star[i]);
            }
            dueCopy("ALL 6", full(12, ALL, 6), 0, 0, 1, 2, 3, 4, 5);
            dueCopy("RING 3", full(12, RING, 3), 0, 0, 1, 2);
            dueCopy("RING 5", full(12, RING, 5), 0, 0, 1, 2, 3, 4);
            dueCopy("STAR 6", full(12, STAR, 6), 0, 0, 1, 2, 3, 4, 5, 6);
            dueCopy("BOOK 4", full(12, BOOK, 4), 0, 0, 1, 2, 3, 4, 5);
            dueCopy("PATH 2", full(12, PATH, 2), 0, 0, 1);
        });
        sentence("BAD: colour,", () -> {
            allBad(last, "copy(3, 0)", "copy(-1, 0)", "copy(MIN, 0)", "copy(MAX, 7)");
            allBad(BUSY, "copy(2, 0)");
        });
        sentence("i is below 0;", () -> {
            allBad(last, "copy(2, -1)", "copy(2, MIN)");
            allBad(BUSY, "copy(0, -1)");
        });
        sentence("NONE: there is no such COPY, or it has not so many.", () -> {
            keeps(last, "copy(2, 7)", NONE);
            keeps(last, "copy(2, MAX)", NONE);
            keeps(last, "copy(0, 0)", NONE);
            keeps(last + "; paint(5, 8, 1)", "copy(2, 0)", NONE);
            keeps(BUSY, "copy(0, 0)", NONE);
            keeps("net(1, 2); target(0, 1, 2)", "copy(0, 0)", NONE);
        });
    }

    private static void degree() {
        under("Promise 11");
        sentence("How many JOINS of a COLOUR a POINT has (-1: BARE ones).", () -> {
            keeps("net(1, 2)", "degree(0, 0)", 0);
            keeps("net(1, 2)", "degree(0, -1)", 0);
            keeps("net(12, 2)", "degree(11, -1)", 11);
            keeps("net(12, 2)", "degree(11, 0)", 0);
            keeps("net(12, 3); turned(728)", "degree(11, 2)", 11);
            keeps("net(12, 3); turned(728)", "degree(0, 2)", 11);
            keeps("net(12, 3); turned(728)", "degree(0, -1)", 0);
            keeps(painted(4, 3, "0120-1"), "degree(0, 0)", 2);
            keeps(painted(4, 3, "0120-1"), "degree(1, -1)", 1);
            keeps(painted(4, 3, "0120-1"), "degree(2, 1)", 2);
        });
        sentence("BAD.", () -> {
            allBad(BUSY, "degree(-1, 0)", "degree(4, 0)", "degree(0, -2)", "degree(0, 2)", "degree(MIN, -1)", "degree(MAX, 0)", "degree(0, MIN)", "degree(0, MAX)");
            allBad("net(12, 3)", "degree(12, 0)", "degree(0, 3)");
            allBad("net(1, 2)", "degree(1, 0)");
        });
    }

    private static void triangles() {
        under("Promise 12");
        sentence("How many triangles have all JOINS of one COLOUR.", () -> {
            keeps("net(1, 2)", "triangles()", 0);
            keeps("net(2, 2); turned(0)", "triangles()", 0);
            keeps("net(3, 2)", "triangles()", 0);
            keeps("net(3, 3); turned(2)", "triangles()", 1);
            keeps(painted(3, 2, "00-"), "triangles()", 0);
            keeps(painted(3, 2, "-00"), "triangles()", 0);
            keeps(painted(3, 2, "001"), "triangles()", 0);
            keeps("net(12, 3); turned(728)", "triangles()", 220);
            keeps("net(12, 2); paint(9, 10, 1); paint(9, 11, 1); paint(10, 11, 1)", "triangles()", 1);
        });
    }

    private static void least() {
        under("Promise 13");
        sentence("What triangles() is at least with n POINTS and 2 COLOURS, WHOLE:", () -> {
            for (int n = 1; n <= 5; n++) {
                int fewest = MAX;
                int length = bench(1, 2).list(n, 0);
                for (int k = 0; k < length; k++) {
                    fewest = Math.min(fewest, Called.bench("listed(" + n + ", " + k + ")").triangles());
                }
                due("least(" + n + ")", new KeptColours().least(n), fewest);
            }
            due(Called.bench(noTriangles(1, 2)), "list(6, 0)", 0);
        });
        sentence("with d for (n - 1) / 2 (cut): n * (n - 1) * (n - 2) / 6 less n * d * (n - 1 - d) / 2 (cut).", () -> {
            int[] told = {0, 0, 0, 0, 0, 2, 4, 8, 12, 20, 28, 40};
            for (int n = 1; n <= 12; n++) {
                keeps("net(3, 3)", "least(" + n + ")", told[n - 1]);
            }
        });
        sentence("BAD: n is not 1 .. 12.", () -> allBad(BUSY, "least(0)", "least(13)", "least(-1)", "least(MIN)", "least(MAX)"));
    }

    // ---- colourings

    private static void turned() {
        under("Promise 14");
        sentence("It becomes TURNED COLOURING t: CLASHES.", () -> {
            changes("net(12, 3); target(2, 1, 2)", "turned(728)", 66);
            changes("net(12, 3); target(2, 1, 2)", "turned(0)", 0);
            changes("net(12, 3); target(2, 1, 2); target(0, 3, 1)", "turned(486)", 6 + 120);
            changes("net(1, 3); target(2, 1, 2)", "turned(0)", 0);
            changes("net(2, 2); target(1, 3, 1)", "turned(1)", 2);
            changes(BUSY, "turned(3)", 12);
        });
        sentence("BAD.", () -> {
            allBad(BUSY, "turned(-1)", "turned(4)", "turned(MIN)", "turned(MAX)");
            allBad("net(1, 3)", "turned(1)", "turned(-1)");
            allBad("net(12, 2); turned(1)", "turned(64)");
            allBad("net(12, 3); turned(1)", "turned(729)");
            allBad("net(11, 3); turned(1)", "turned(243)");
        });
    }

    private static void turns() {
        under("Promise 15");
        sentence("TURNED ones that are CLEAR: how many (what 0), the least (1), the greatest (2).", () -> {
            keeps("net(12, 3)", "turns(0)", 729);
            keeps("net(12, 3)", "turns(1)", 0);
            keeps("net(12, 3)", "turns(2)", 728);
            keeps("net(1, 2); target(0, 1, 2); target(1, 1, 2)", "turns(0)", 1);
            keeps("net(1, 2); target(0, 1, 2); target(1, 1, 2)", "turns(1)", 0);
            keeps("net(1, 2); target(0, 1, 2); target(1, 1, 2)", "turns(2)", 0);
            keeps("net(4, 2); target(0, 1, 2)", "turns(0)", 1);
            keeps("net(4, 2); target(0, 1, 2)", "turns(1)", 3);
            keeps("net(4, 2); target(0, 1, 2)", "turns(2)", 3);
            keeps(noTriangles(5, 2) + "; turned(0)", "turns(0)", 2);
        });
        sentence("BAD;", () -> {
            allBad(BUSY, "turns(-1)", "turns(3)", "turns(MIN)", "turns(MAX)");
            allBad(noTriangles(6, 2), "turns(-1)", "turns(3)");
        });
        sentence("NONE: there are none (1, 2).", () -> {
            keeps(noTriangles(6, 2), "turns(0)", 0);
            keeps(noTriangles(6, 2), "turns(1)", NONE);
            keeps(noTriangles(6, 2), "turns(2)", NONE);
            keeps(BUSY, "turns(0)", 0);
            keeps(BUSY, "turns(1)", NONE);
            keeps(BUSY, "turns(2)", NONE);
        });
    }

    private static void list() {
        under("Promise 16");
        sentence("How long THE LIST for n POINTS is (what 0); FORMS (1).", () -> {
            keeps(BUSY, "list(1, 0)", 1);
            keeps(BUSY, "list(1, 1)", 1);
            keeps(BUSY, "list(4, 0)", 0);
            keeps(BUSY, "list(4, 1)", 0);
            keeps("net(12, 2)", "list(6, 0)", 32768);
            keeps("net(12, 2)", "list(6, 1)", 156);
            keeps("net(12, 3)", "list(5, 0)", 59049);
            keeps("net(12, 3)", "list(5, 1)", 792);
            keeps(noTriangles(9, 2) + "; turned(0)", "list(5, 0)", 12);
            keeps(noTriangles(9, 2) + "; turned(0)", "list(5, 1)", 1);
        });
        sentence("BAD: n 1 .. 12, what;", () -> {
            allBad(BUSY, "list(0, 0)", "list(13, 0)", "list(-1, 1)", "list(MIN, 0)", "list(MAX, 1)");
            allBad(BUSY, "list(4, -1)", "list(4, 2)", "list(4, MIN)", "list(4, MAX)", "list(12, 2)", "list(7, -1)", "list(13, 2)");
        });
        sentence("LARGE.", () -> {
            keeps(BUSY, "list(7, 0)", LARGE);
            keeps(BUSY, "list(7, 1)", LARGE);
            keeps(BUSY, "list(12, 0)", LARGE);
            keeps("net(2, 3)", "list(6, 0)", LARGE);
            keeps("net(2, 3)", "list(6, 1)", LARGE);
            keeps("net(2, 3)", "list(12, 1)", LARGE);
        });
    }

    private static void listed() {
        under("Promise 17");
        sentence("The COLOURING is number k of THE LIST for n POINTS (so many are there then): JOINS.", () -> {
            changes("net(12, 2); turned(5)", "listed(1, 0)", 0);
            changes("net(12, 2); turned(5)", "listed(2, 1)", 1);
            changes("net(1, 2)", "listed(6, 0)", 15);
            changes("net(1, 2)", "listed(6, 32767)", 15);
            changes("net(1, 3)", "listed(5, 59048)", 10);
            changes(BUSY, "listed(2, 0)", 1);
            KeptColours x = Called.bench("net(1, 3); target(2, 1, 6); listed(5, 59048)");
            dueText("NET, TARGETS and COLOURING", netOf(x), "5/3 0:0 0:0 1:6 2222222222");
            KeptColours y = Called.bench(noTriangles(9, 2) + "; listed(5, 0)");
            dueText("the first of 12", netOf(y), "5/2 1:3 1:3 " + BAD + ":" + BAD + " 0011011100");
            KeptColours z = Called.bench(noTriangles(9, 2) + "; listed(5, 11)");
            dueText("the last of 12", netOf(z), "5/2 1:3 1:3 " + BAD + ":" + BAD + " 1100100011");
        });
        sentence("BAD: n, k is below 0;", () -> allBad(BUSY, "listed(0, 0)", "listed(13, 0)", "listed(-1, 0)", "listed(MIN, 0)", "listed(MAX, 0)",
                "listed(2, -1)", "listed(2, MIN)", "listed(4, -1)", "listed(7, -1)", "listed(12, MIN)"));
        sentence("LARGE;", () -> {
            keeps(BUSY, "listed(7, 0)", LARGE);
            keeps(BUSY, "listed(12, MAX)", LARGE);
            keeps("net(2, 3)", "listed(6, 0)", LARGE);
        });
        sentence("NONE: there are not so many.", () -> {
            changesToSame(BUSY, "listed(1, 1)", NONE);
            changesToSame(BUSY, "listed(4, 0)", NONE);
            changesToSame(BUSY, "listed(2, 2)", NONE);
            changesToSame(BUSY, "listed(2, MAX)", NONE);
            changesToSame(noTriangles(9, 2), "listed(5, 12)", NONE);
            changesToSame("net(1, 2)", "listed(6, 32768)", NONE);
            changesToSame("net(1, 3)", "listed(5, 59049)", NONE);
            changesToSame("net(1, 3)", "listed(5, 60000)", NONE);
        });
    }

    private static void form() {
        under("Promise 18");
        sentence("COLOUR of JOIN k (by its number) in THE FORM (-1: BARE).", () -> {
            keeps(painted(3, 2, "10-"), "form(0)", -1);
            keeps(painted(3, 2, "10-"), "form(1)", 0);
            keeps(painted(3, 2, "10-"), "form(2)", 1);
            keeps("net(7, 3); paint(0, 1, 2)", "form(20)", 2);
            keeps("net(7, 3); paint(0, 1, 2)", "form(19)", -1);
            keeps("net(7, 3); paint(0, 1, 2)", "form(0)", -1);
            keeps(BUSY, "form(5)", 0);
        });
        sentence("BAD: no such JOIN;", () -> {
            allBad(BUSY, "form(-1)", "form(6)", "form(MIN)", "form(MAX)");
            allBad("net(1, 2)", "form(0)", "form(-1)");
            allBad("net(7, 2)", "form(21)");
            allBad("net(8, 2)", "form(28)", "form(-1)");
            allBad("net(12, 3)", "form(66)");
        });
        sentence("LARGE: more than 7 POINTS.", () -> {
            keeps("net(7, 2)", "form(20)", -1);
            keeps("net(8, 2)", "form(0)", LARGE);
            keeps("net(8, 2)", "form(27)", LARGE);
            keeps("net(12, 3)", "form(65)", LARGE);
        });
    }

    private static void same() {
        under("Promise 19");
        sentence("How many of the ways in which POINTS can be numbered lead to THE FORM.", () -> {
            int[] all = {1, 2, 6, 24, 120, 720, 5040};
            for (int n = 1; n <= 7; n++) {
                keeps("net(" + n + ", 3)", "same()", all[n - 1]);
            }
            keeps("net(7, 2); turned(1)", "same()", 14);
            keeps(painted(7, 2, "1" + "01" + "001" + "0001" + "00110" + "000000"), "same()", 1);
            keeps(BUSY, "same()", 4);
        });
        sentence("LARGE.", () -> {
            keeps("net(8, 2)", "same()", LARGE);
            keeps("net(12, 3); turned(0)", "same()", LARGE);
        });
    }

    private static void puts() {
        under("Promise 20");
        sentence("How many rows can be PUT ON.", () -> {
            keeps("net(1, 2)", "puts()", 2);
            keeps("net(1, 3); target(0, 1, 2); target(2, 3, 1)", "puts()", 1);
            keeps("net(1, 2); target(0, 1, 2); target(1, 5, 2)", "puts()", 0);
            keeps(noTriangles(5, 2) + "; turned(1)", "puts()", 0);
            keeps("net(11, 2); turned(0)", "puts()", 2048);
            keeps("net(10, 3); turned(0)", "puts()", 59049);
        });
        sentence("FULL: there are 12 POINTS;", () -> {
            keeps("net(12, 2)", "puts()", FULL);
            keeps("net(12, 3)", "puts()", FULL);
            keeps("net(12, 2); turned(0)", "puts()", FULL);
            keeps("net(12, 2); target(0, 1, 2); turned(0)", "puts()", FULL);
        });
        sentence("LARGE;", () -> {
            keeps("net(11, 3)", "puts()", LARGE);
            keeps("net(11, 3); turned(0)", "puts()", LARGE);
            keeps("net(11, 3); target(0, 1, 2); turned(0)", "puts()", LARGE);
        });
        sentence("NO: it is not WHOLE, or not CLEAR.", () -> {
            keeps("net(2, 2)", "puts()", NO);
            keeps("net(11, 2); turned(0); paint(9, 10, -1)", "puts()", NO);
            keeps("net(10, 3); turned(0); paint(0, 1, -1)", "puts()", NO);
            keeps("net(3, 2); target(0, 1, 3); turned(0)", "puts()", NO);
            keeps("net(10, 3); target(2, 1, 2); turned(0); paint(8, 9, 2)", "puts()", NO);
            keeps(BUSY, "puts()", NO);
        });
    }

    private static void put() {
        under("Promise 21");
        sentence("Row k is PUT ON: how many POINTS.", () -> {
            changes("net(1, 2)", "put(0)", 2);
            changes("net(1, 2)", "put(1)", 2);
            changes("net(11, 2); turned(0)", "put(2047)", 12);
            changes("net(10, 3); turned(0)", "put(59048)", 11);
            KeptColours x = Called.bench("net(3, 3); target(1, 1, 4); turned(2); put(5)");
            dueText("NET, TARGETS and COLOURING", netOf(x), "4/3 0:0 1:4 0:0 222012");
            KeptColours y = Called.bench("net(11, 2); turned(0); put(1)");
            due(y, "colour(10, 11)", 1);
            due(y, "degree(11, 1)", 1);
        });
        sentence("FULL;", () -> {
            keeps("net(12, 2); turned(0)", "put(0)", FULL);
            keeps("net(12, 3)", "put(-1)", FULL);
        });
        sentence("LARGE;", () -> {
            keeps("net(11, 3); turned(0)", "put(0)", LARGE);
            keeps("net(11, 3)", "put(-1)", LARGE);
        });
        sentence("NO;", () -> {
            keeps("net(2, 2)", "put(0)", NO);
            keeps("net(2, 2)", "put(-1)", NO);
            keeps("net(3, 2); target(0, 1, 3); turned(0)", "put(0)", NO);
            keeps("net(3, 2); target(0, 1, 3); turned(0)", "put(-1)", NO);
            keeps(BUSY, "put(0)", NO);
        });
        sentence("BAD: k is below 0;", () -> {
            allBad("net(1, 2)", "put(-1)", "put(MIN)");
            allBad(noTriangles(5, 2) + "; turned(1)", "put(-1)");
        });
        sentence("NONE: there are not so many.", () -> {
            changesToSame("net(1, 2)", "put(2)", NONE);
            changesToSame("net(1, 2)", "put(MAX)", NONE);
            changesToSame("net(11, 2); turned(0)", "put(2048)", NONE);
            changesToSame("net(10, 3); turned(0)", "put(59049)", NONE);
            changesToSame("net(10, 3); turned(0)", "put(60000)", NONE);
            changesToSame(noTriangles(5, 2) + "; turned(1)", "put(0)", NONE);
            changesToSame("net(1, 2); target(0, 1, 2); target(1, 5, 2)", "put(0)", NONE);
        });
    }

    private static void drop() {
        under("Promise 22");
        sentence("The last POINT goes: how many are left.", () -> {
            KeptColours x = Called.bench("net(12, 3); target(2, 3, 6); turned(244)");
            String colours = coloursOf(x);
            for (int left = 11; left >= 1; left--) {
                due(x, "drop()", left);
                dueText("what is left", netOf(x), left + "/3 0:0 0:0 3:6 " + colours.substring(0, left * (left - 1) / 2));
            }
            due(x, "drop()", NO);
            changes(BUSY, "drop()", 3);
            changes("net(2, 2)", "drop()", 1);
            // What went is gone: a POINT that comes later has JOINS of its own.
            KeptColours y = Called.bench(painted(3, 2, "111") + "; drop(); put(0)");
            dueColours("drop(); put(0)", y, "1" + "00");
        });
        sentence("NO: there is one.", () -> {
            keeps("net(1, 2)", "drop()", NO);
            keeps("net(1, 3); target(2, 1, 2)", "drop()", NO);
            keeps("net(2, 2); drop()", "drop()", NO);
        });
    }

    // ---- filling, proofs

    private static void fill() {
        under("Promise 23");
        sentence("FILLING with at most so many TRIES (1 .. 20000):", () -> {
            changes("net(2, 2)", "fill(1)", 1);
            changes("net(2, 2)", "fill(20000)", 1);
            allBad(BUSY, "fill(0)", "fill(20001)");
            allBad("net(2, 2)", "fill(0)", "fill(20001)");
        });
        sentence("1 (a CHANGE, also if nothing was BARE),", () -> {
            changes("net(3, 2)", "fill(3)", 1);
            changes("net(3, 2); turned(1)", "fill(1)", 1);
            changes("net(12, 3); turned(728)", "fill(20000)", 1);
            changes("net(1, 2)", "fill(1)", 1);
        });
        sentence("0 if there is none (nothing changes, no CHANGE).", () -> {
            // The TRIES are the same ahead of it, so that they can be held against each other.
            keeps(PROVED + "; fill(10)", "fill(10)", 0);
            keeps(noTriangles(6, 2) + "; fill(650)", "fill(650)", 0);
            keeps("net(3, 2); target(0, 1, 3); turned(0)", "fill(1)", 0);
            due(Called.bench(BUSY + "; fill(20000)"), "count(4)", 6);
            due(Called.bench(BUSY + "; fill(20000)"), "check()", 0);
            due(Called.bench(BUSY + "; fill(20000)"), "count(2)", 5);
        });
        sentence("BAD;", () -> allBad(BUSY, "fill(0)", "fill(-1)", "fill(20001)", "fill(MIN)", "fill(MAX)"));
        sentence("SPENT.", () -> {
            keeps(BUSY, "fill(1)", SPENT);
            keeps(BUSY, "fill(3)", SPENT);
            due(Called.bench(BUSY), "fill(4)", 0);
            keeps("net(2, 2); target(0, 1, 2)", "fill(1)", SPENT);
            due(Called.bench("net(2, 2); target(0, 1, 2)"), "fill(2)", 1);
            keeps(noTriangles(11, 3), "fill(20000)", SPENT);
        });
    }

    private static void tries() {
        under("Promise 24");
        sentence("How many TRIES the latest fill() did that was not refused.", () -> {
            keeps("", "tries()", 0);
            keeps("fill(15)", "tries()", 15);
            keeps("fill(15); fill(1)", "tries()", 0);
            keeps("fill(15); net(12, 2); fill(65)", "tries()", 15);
            keeps("fill(15); net(12, 2); fill(0)", "tries()", 15);
            keeps("fill(15); net(12, 2); fill(66)", "tries()", 66);
            keeps(noTriangles(6, 2) + "; fill(650)", "tries()", 650);
            keeps(noTriangles(6, 2) + "; fill(649)", "tries()", 0);
            keeps("fill(15); target(0, 1, 2); fill(9)", "tries()", 0);
            keeps(BUSY, "tries()", 21);
        });
    }

    private static void prove() {
        under("Promise 25");
        sentence("A PROOF is made: how many rows.", () -> {
            due(Called.bench("net(2, 2); target(0, 1, 2); target(1, 1, 2)"), "prove()", 2);
            due(Called.bench("net(2, 3); target(0, 1, 2); target(1, 1, 2); target(2, 1, 2)"), "prove()", 3);
            KeptColours x = Called.bench(BUSY);
            due(x, "prove()", 4);
            due(x, "count(5)", 4);
            due(x, "count(4)", 6);
            due(x, "forge(0, 4095)", 7);
            due(x, "prove()", 4);
            due(x, "row(0, 2)", 7);
            KeptColours most = Called.bench("net(6, 2); target(0, 2, 4); target(1, 2, 4); paint(3, 4, 1); paint(0, 2, 1)");
            due(most, "prove()", 500);
            due(most, "count(5)", 500);
            due(most, "check()", 0);
        });
        sentence("NO: FILLING finds one within 500 TRIES, or there is a COPY at the beginning;", () -> {
            keeps("", "prove()", NO);
            keeps("net(1, 2); target(0, 1, 2); target(1, 1, 2)", "prove()", NO);
            keeps("net(12, 2); turned(0)", "prove()", NO);
            keeps("net(12, 3)", "prove()", NO);
            keeps("net(7, 2); target(0, 3, 5); target(1, 5, 5); paint(3, 6, 1)", "prove()", NO);
            due(Called.bench("net(7, 2); target(0, 3, 5); target(1, 5, 5); paint(3, 6, 1)"), "fill(499)", SPENT);
            due(Called.bench("net(7, 2); target(0, 3, 5); target(1, 5, 5); paint(3, 6, 1)"), "fill(500)", 1);
            keeps(painted(4, 2, "1-----") + "; target(1, 1, 2)", "prove()", NO);
            keeps(painted(3, 2, "000") + "; target(0, 1, 3)", "prove()", NO);
        });
        sentence("FULL: it does not end within 500 TRIES.", () -> {
            keeps(noTriangles(6, 2), "prove()", FULL);
            keeps(noTriangles(11, 3), "prove()", FULL);
            String none = "net(7, 3); target(0, 3, 5); target(1, 3, 2); target(2, 3, 1); paint(4, 1, 0)";
            keeps(none, "prove()", FULL);
            due(Called.bench(none), "fill(500)", SPENT);
            due(Called.bench(none), "fill(501)", 0);
            String one = "net(7, 2); target(0, 3, 5); target(1, 2, 4); paint(2, 5, 0)";
            keeps(one, "prove()", FULL);
            due(Called.bench(one), "fill(500)", SPENT);
            due(Called.bench(one), "fill(501)", 1);
        });
    }

    private static void row() {
        under("Promise 26");
        sentence("Of row i of THE PROOF: what 0 JOIN, 1 COLOUR, 2 POINTS.", () -> {
            // JOIN 0 has COLOUR 0.
            int[][] rows = {{1, 0, 7}, {1, 1, 0}, {2, 0, 7}, {2, 1, 7}};
            for (int i = 0; i < rows.length; i++) {
                for (int what = 0; what <= 2; what++) {
                    keeps(BUSY, "row(" + i + ", " + what + ")", rows[i][what]);
                }
            }
        });
        sentence("NO: there is none;", () -> {
            keeps("", "row(0, 0)", NO);
            keeps("", "row(-1, 0)", NO);
            keeps("", "row(0, 3)", NO);
            keeps(BUSY + "; drop()", "row(0, 0)", NO);
            keeps(noTriangles(6, 2) + "; prove()", "row(0, 0)", NO);
        });
        sentence("BAD: i, what.", () -> {
            allBad(BUSY, "row(-1, 0)", "row(4, 0)", "row(500, 0)", "row(MIN, 0)", "row(MAX, 0)", "row(0, -1)", "row(0, 3)", "row(0, MIN)", "row(0, MAX)");
            KeptColours most = Called.bench("net(6, 2); target(0, 2, 4); target(1, 2, 4); paint(3, 4, 1); paint(0, 2, 1); prove()");
            due(most, "row(499, 1)", 1);
            due(most, "row(500, 1)", BAD);
        });
    }

    private static void forge() {
        under("Promise 27");
        sentence("The POINTS (0 .. 4095) of a row become others: what they were.", () -> {
            KeptColours x = Called.bench(BUSY);
            due(x, "forge(0, 0)", 7);
            due(x, "forge(0, 4095)", 0);
            due(x, "forge(0, 1)", 4095);
            due(x, "forge(3, 4095)", 7);
            due(x, "row(0, 2)", 1);
            due(x, "row(1, 2)", 0);
            due(x, "row(3, 2)", 4095);
            due(x, "row(3, 0)", 2);
            due(x, "row(3, 1)", 1);
            due(x, "count(4)", 6);
            due(x, "count(5)", 4);
        });
        sentence("NO: there is no PROOF;", () -> {
            keeps("", "forge(0, 0)", NO);
            keeps("", "forge(-1, 0)", NO);
            keeps("", "forge(0, 4096)", NO);
            keeps(BUSY + "; undo()", "forge(0, 0)", NO);
        });
        sentence("BAD.", () -> allBad(BUSY, "forge(-1, 0)", "forge(4, 0)", "forge(500, 0)", "forge(MIN, 0)", "forge(MAX, 0)",
                "forge(0, -1)", "forge(0, 4096)", "forge(0, MIN)", "forge(0, MAX)"));
    }

    private static void check() {
        under("Promise 28");
        sentence("Whether THE PROOF HOLDS: 0;", () -> {
            keeps(BUSY, "check()", 0);
            keeps(PROVED, "check()", 0);
            keeps(PROVED + "; forge(1, 5); forge(1, 7)", "check()", 0);
            keeps("net(2, 2); target(0, 1, 2); target(1, 1, 2); prove()", "check()", 0);
        });
        sentence("else 1 and the first row that is not as told, as the rows ahead of it stand", () -> {
            keeps(PROVED + "; forge(0, 3)", "check()", 1);
            keeps(PROVED + "; forge(9, 3)", "check()", 10);
            keeps(PROVED + "; forge(9, 3); forge(4, 3)", "check()", 5);
            keeps(PROVED + "; forge(4, 3); forge(9, 3)", "check()", 5);
            // The row ahead goes on now, so that the next one, though it is as it was, is not as told.
            keeps(PROVED + "; forge(3, 0)", "check()", 5);
            keeps(BUSY + "; forge(0, 0)", "check()", 2);
        });
        sentence("(also one that is too much; 1 and how many rows there are, if it ends too soon).", () -> {
            keeps(PROVED + "; forge(9, 0)", "check()", 11);
            keeps(BUSY + "; forge(3, 0)", "check()", 5);
            keeps("net(3, 2); target(0, 1, 2); target(1, 1, 2); prove(); forge(1, 0)", "check()", 3);
            keeps("net(2, 2); target(0, 1, 2); target(1, 1, 2); prove(); forge(1, 0)", "check()", 2);
            // JOIN 1 is due behind a row of JOIN 0 that goes on, and what is there is a row of JOIN 0.
            keeps("net(3, 2); target(0, 1, 2); target(1, 1, 2); prove(); forge(0, 0)", "check()", 2);
        });
        sentence("NO: there is none.", () -> {
            keeps("", "check()", NO);
            keeps(BUSY + "; undo()", "check()", NO);
            keeps(BUSY + "; paint(0, 1, 0)", "check()", NO);
            keeps(noTriangles(6, 2) + "; prove()", "check()", NO);
        });
    }

    // ---- walks

    private static void step() {
        under("Promise 29");
        String kept = "net(12, 2); target(0, 1, 2); turned(0)";
        sentence("A STEP is done, n times (1 .. 30) at most, as long as there is one: how many.", () -> {
            changes(kept, "step(1)", 1);
            changes(kept, "step(29)", 29);
            changes(kept, "step(30)", 30);
            changes(kept + "; step(30)", "step(30)", 30);
            changes(kept + "; step(30); step(30)", "step(30)", 6);
            changes(kept + "; step(30); step(30); step(6)", "step(30)", 0);
            changes(kept + "; step(30); step(29)", "step(7)", 7);
            changes(kept + "; step(30); step(30)", "step(5)", 5);
            changes("net(1, 2)", "step(1)", 0);
            due(Called.bench(kept + "; step(30)"), "count(3)", 36);
            due(Called.bench(kept + "; step(30)"), "count(4)", 4);
        });
        sentence("BAD;", () -> {
            allBad(kept, "step(0)", "step(31)", "step(-1)", "step(MIN)", "step(MAX)");
            allBad(BUSY, "step(0)", "step(31)", "step(MIN)");
        });
        sentence("NO: it is not WHOLE.", () -> {
            keeps(BUSY, "step(1)", NO);
            keeps(BUSY, "step(30)", NO);
            keeps(kept + "; paint(10, 11, -1)", "step(30)", NO);
            keeps(kept + "; paint(0, 1, -1)", "step(1)", NO);
        });
    }

    private static void undo() {
        under("Promise 30");
        sentence("The latest CHANGE that is kept is taken back: how many are kept still.", () -> {
            KeptColours x = Called.bench(BUSY);
            String[] behind = {
                "4/2 5:3 0:0 0-----", "4/2 1:4 0:0 0-----", "4/2 1:4 0:0 1-----", "4/2 1:4 0:0 ------"};
            for (int k = 0; k < behind.length; k++) {
                due(x, "undo()", 5 - k);
                dueText("undo() " + (k + 1), netOf(x).replace(" " + BAD + ":" + BAD, ""), behind[k]);
            }
            due(x, "undo()", 1);
            dueText("undo() 5", netOf(x), "4/3 1:4 0:0 0:0 ------");
            due(x, "undo()", 0);
            due(x, "count(0)", 6);
            due(x, "count(2)", 0);
            due(x, "aim(0, 1)", 4);
            due(x, "undo()", NO);
            due(x, "tries()", 21);
        });
        sentence("NO.", () -> {
            keeps("", "undo()", NO);
            keeps("net(3, 3); undo()", "undo()", NO);
            keeps(BUSY + "; undo(); undo(); undo(); undo(); undo(); undo()", "undo()", NO);
        });
    }

    private static void count() {
        under("Promise 31");
        sentence("How many: 0 POINTS, 1 COLOURS, 2 JOINS that are BARE, 3 CLASHES, 4 CHANGES that are kept, 5 rows of THE PROOF.", () -> {
            int[] first = {6, 2, 15, 0, 0, 0};
            int[] busy = {4, 2, 5, 0, 6, 4};
            int[] whole = {12, 3, 0, 66, 3, 0};
            int[] one = {1, 2, 0, 0, 1, 0};
            for (int what = 0; what <= 5; what++) {
                keeps("", "count(" + what + ")", first[what]);
                keeps(BUSY, "count(" + what + ")", busy[what]);
                keeps("net(12, 3); target(2, 1, 2); turned(728)", "count(" + what + ")", whole[what]);
                keeps("net(1, 2)", "count(" + what + ")", one[what]);
            }
        });
        sentence("BAD.", () -> allBad(BUSY, "count(-1)", "count(6)", "count(MIN)", "count(MAX)"));
    }
}
