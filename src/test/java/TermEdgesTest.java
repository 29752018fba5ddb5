import java.io.IOException;

/**
 * The sentences of the document's "Terms", each with a test of its own at the edges that it names: the
 * least and the greatest that is taken and the first beyond each, nothing there and no room left, what
 * wraps round, what is refused.
 */
public final class TermEdgesTest extends Sentences {
    public static void main(String[] args) throws IOException {
        open();
        lives();
        under("Terms");
        refusals();
        points();
        colours();
        joins();
        targets();
        targetFigures();
        copyRows();
        copyOrder();
        clear();
        turned();
        lists();
        alike();
        putOn();
        filling();
        spent();
        proofs();
        holds();
        steps();
        changes();
        kept();
        endSentences();
    }

    // ---- ahead of the terms

    private static void lives() {
        sentenceUnder("What it is", "An object is used for at most 512 calls after it has been made", () -> {
            KeptColours x = new KeptColours();
            for (int i = 1; i < 512; i++) {
                due(x, "paint(0, 1, " + i % 2 + ")", i == 1 ? -1 : (i - 1) % 2);
            }
            due("the 512th call", x.colour(0, 1), 1);
        });
        sentenceUnder("The public face", "BAD = -1000000001, NO = -1000000002, FULL = -1000000003, LARGE = -1000000004, SPENT = -1000000006, NONE = -1000000005", () -> {
            due("BAD", KeptColours.BAD, -1000000001);
            due("NO", KeptColours.NO, -1000000002);
            due("FULL", KeptColours.FULL, -1000000003);
            due("LARGE", KeptColours.LARGE, -1000000004);
            due("SPENT", KeptColours.SPENT, -1000000006);
            due("NONE", KeptColours.NONE, -1000000005);
        });
    }

    private static void refusals() {
        onlyNames("All numbers are whole.");
        sentence("A call that is refused answers one of BAD, NO, FULL, LARGE, SPENT, of several the one that stands first with it, and changes nothing.", () -> {
            keeps("", "list(7, 2)", BAD);
            keeps("", "list(13, 0)", BAD);
            keeps("", "listed(7, -1)", BAD);
            keeps("", "listed(13, 0)", BAD);
            keeps("net(8, 2)", "form(28)", BAD);
            keeps("net(12, 3)", "puts()", FULL);
            keeps("net(12, 3)", "put(-1)", FULL);
            keeps("net(11, 3)", "puts()", LARGE);
            keeps("net(11, 3)", "put(-1)", LARGE);
            keeps("net(3, 2)", "put(-1)", NO);
            keeps(noTriangles(11, 3), "fill(20000)", SPENT);
            keeps(noTriangles(11, 3), "fill(20001)", BAD);
            keeps("", "row(-1, 3)", NO);
            keeps("", "forge(-1, -1)", NO);
            keeps("", "step(31)", BAD);
            keeps(PROVED, "step(0)", BAD);
        });
        sentence("NONE: there is none.", () -> {
            keeps("", "copy(0, 0)", NONE);
            keeps(noTriangles(6, 2), "turns(1)", NONE);
            changesToSame(noTriangles(6, 2), "listed(6, 0)", NONE);
            changesToSame(noTriangles(5, 2) + "; turned(1)", "put(0)", NONE);
            keeps("", "copy(0, -1)", BAD);
            keeps(noTriangles(6, 2), "turns(3)", BAD);
            keeps(noTriangles(6, 2), "listed(6, -1)", BAD);
            keeps("", "listed(7, MAX)", LARGE);
            keeps(noTriangles(5, 2) + "; turned(1)", "put(-1)", BAD);
            keeps(noTriangles(5, 2) + "; turned(0)", "put(MAX)", NO);
            keeps("net(11, 3)", "put(MAX)", LARGE);
            keeps("net(12, 2)", "put(MAX)", FULL);
        });
    }

    // ---- 1 the net

    private static void points() {
        sentence("THE NET has POINTS 0 .. n - 1,", () -> {
            for (int n : new int[] {1, 2, 7, 12}) {
                KeptColours x = bench(n, 2);
                due(x, "degree(0, -1)", n - 1);
                due(x, "degree(" + (n - 1) + ", -1)", n - 1);
                due(x, "degree(" + n + ", -1)", BAD);
                due(x, "degree(-1, -1)", BAD);
                due(x, "colour(0, " + n + ")", BAD);
                due(x, "colour(" + (n - 1) + ", -1)", BAD);
                due(x, "paint(" + n + ", 0, 0)", BAD);
            }
            due(bench(12, 2), "colour(0, 11)", -1);
            due(bench(2, 2), "colour(1, 0)", -1);
        });
        sentence("n 1 .. 12 (6 at first)", () -> {
            due(new KeptColours(), "count(0)", 6);
            due(new KeptColours(), "colour(0, 5)", -1);
            due(new KeptColours(), "colour(0, 6)", BAD);
            due(bench(1, 2), "count(0)", 1);
            due(bench(12, 2), "count(0)", 12);
            keeps("net(5, 3)", "net(0, 2)", BAD);
            keeps("net(5, 3)", "net(13, 2)", BAD);
        });
    }

    private static void colours() {
        sentence("and COLOURS 0 .. C - 1,", () -> {
            for (int c : new int[] {2, 3}) {
                KeptColours x = bench(4, c);
                due(x, "paint(0, 1, " + (c - 1) + ")", -1);
                due(x, "paint(0, 1, " + c + ")", BAD);
                due(x, "paint(0, 1, -2)", BAD);
                due(x, "paint(0, 1, 0)", c - 1);
                due(x, "copies(" + (c - 1) + ")", 0);
                due(x, "copies(" + c + ")", BAD);
                due(x, "copies(0)", 0);
                due(x, "copies(-1)", BAD);
            }
        });
        sentence("C 2 or 3 (2 at first).", () -> {
            due(new KeptColours(), "count(1)", 2);
            due(new KeptColours(), "copies(1)", 0);
            due(new KeptColours(), "copies(2)", BAD);
            due(bench(4, 2), "count(1)", 2);
            due(bench(4, 3), "count(1)", 3);
            keeps("net(5, 3)", "net(5, 1)", BAD);
            keeps("net(5, 3)", "net(5, 4)", BAD);
        });
    }

    /** No JOIN but the last of all 66 is BARE: in COLOUR 0 it makes 4 all joined, in COLOUR 1 6, first with the least of four pairs. */
    private static final String LAST_JOIN_BARE = "net(12, 2); target(0, 1, 4); target(1, 1, 6); turned(63); "
            + "paint(0, 1, 0); paint(2, 3, 0); paint(4, 5, 0); paint(6, 7, 0); "
            + "paint(8, 9, 0); paint(8, 10, 0); paint(8, 11, 0); paint(9, 10, 0); paint(9, 11, 0); paint(10, 11, -1)";

    private static void joins() {
        sentence("Each two POINTS are JOINED;", () -> {
            for (int n : new int[] {1, 2, 12}) {
                due(bench(n, 2), "count(2)", n * (n - 1) / 2);
                due(bench(n, 2), "colour(" + (n - 1) + ", " + (n - 1) + ")", BAD);
                due(bench(n, 2), "paint(0, 0, 1)", BAD);
            }
        });
        sentence("the JOIN of i below j has the number j * (j - 1) / 2 + i;", () -> {
            // COLOUR 0 is kept off and 1 fails as POINT 0 has 6: two rows for each JOIN up to the sixteenth.
            KeptColours x = Called.bench("net(7, 2); target(0, 1, 2); target(1, 3, 6)");
            due(x, "prove()", 32);
            int k = 0;
            for (int j = 1; j < 6; j++) {
                for (int i = 0; i < j; i++, k++) {
                    dueRow(x, 2 * k, k, 0, 1 << i | 1 << j);
                    dueRow(x, 2 * k + 1, k, 1, 0);
                }
            }
            dueRow(x, 30, 15, 0, 1 | 1 << 6);
            dueRow(x, 31, 15, 1, 127);
            KeptColours last = Called.bench(LAST_JOIN_BARE);
            due(last, "prove()", 2);
            due(last, "row(0, 0)", 65);
        });
        sentence("it has a COLOUR, or is BARE (all at first).", () -> {
            due(new KeptColours(), "count(2)", 15);
            dueColours("none", new KeptColours(), "---------------");
            KeptColours x = bench(2, 2, "1");
            due(x, "count(2)", 0);
            due(x, "paint(0, 1, -1)", 1);
            due(x, "count(2)", 1);
            due(x, "colour(0, 1)", -1);
        });
        sentence("A COLOURING is WHOLE, if no JOIN is BARE.", () -> {
            due(bench(1, 2), "step(1)", 0);
            due(bench(2, 2), "step(1)", NO);
            due(bench(2, 2, "0"), "step(1)", 0);
            due(bench(3, 2, "-00"), "step(1)", NO);
            due(bench(3, 2, "00-"), "step(1)", NO);
            due(bench(3, 2, "000"), "step(1)", 0);
            due(Called.bench("net(12, 2); turned(0)"), "step(1)", 0);
            due(Called.bench("net(12, 2); turned(0); paint(10, 11, -1)"), "step(1)", NO);
        });
        sentence("COLOURINGS of as many POINTS are in order by the JOINS' numbers: the first at which they differ, the lesser COLOUR ahead.", () -> {
            String[] ofTwo = {"000", "001", "010", "011", "100", "101", "110", "111"};
            for (int k = 0; k < ofTwo.length; k++) {
                KeptColours x = bench(3, 2);
                due(x, "listed(3, " + k + ")", 3);
                dueColours("listed(3, " + k + ")", x, ofTwo[k]);
            }
            int[] numbers = {0, 1, 2, 3, 9, 18, 26};
            String[] ofThree = {"000", "001", "002", "010", "100", "200", "222"};
            for (int k = 0; k < numbers.length; k++) {
                KeptColours x = bench(3, 3);
                due(x, "listed(3, " + numbers[k] + ")", 3);
                dueColours("listed(3, " + numbers[k] + ")", x, ofThree[k]);
            }
        });
    }

    // ---- 1 targets

    private static void targets() {
        onlyNames("TARGETS: each COLOUR has one, of a KIND and a size m:");
        sentence("0 NONE (at first): nothing is one.", () -> {
            KeptColours x = new KeptColours();
            due(x, "aim(0, 0)", 0);
            due(x, "aim(1, 0)", 0);
            due(x, "turned(0)", 0);
            due(x, "copies(0)", 0);
            due(x, "clear()", 1);
            due(x, "target(0, 1, 2)", 0);
            due(x, "copies(0)", 15);
            due(x, "target(0, 0, 0)", 0);
            due(x, "copies(0)", 0);
            due(x, "copy(0, 0)", NONE);
            due(bench(1, 2), "clear()", 1);
            keeps("target(0, 1, 2)", "target(0, 0, 1)", BAD);
            keeps("target(0, 1, 2)", "target(0, 0, -1)", BAD);
        });
        sentence("PATHS and RINGS are ROWS, KIND 6: each joined with the next one; no TARGET is told as such.)", () -> {
            keeps("target(0, 2, 3)", "isOf(0, 6)", 1);
            keeps("target(0, 5, 3)", "isOf(0, 6)", 1);
            for (String other : new String[] {"0, 0", "1, 3", "3, 3", "4, 3"}) {
                keeps("target(0, " + other + ")", "isOf(0, 6)", 0);
            }
            due(Called.bench("target(0, 2, 3)"), "aim(0, 0)", 2);
            due(Called.bench("target(0, 5, 3)"), "aim(0, 0)", 5);
            keeps("target(0, 2, 3)", "target(0, 6, 3)", BAD);
        });
    }

    private static void targetFigures() {
        sentence("1 ALL: m POINTS (2 .. 6), each two joined.", () -> {
            sizes(ALL, 2, 6);
            figure(ALL, 2, 1, 0, 1);
            figure(ALL, 6, 1, 0, 1, 0, 2, 0, 3, 0, 4, 0, 5, 1, 2, 1, 3, 1, 4, 1, 5, 2, 3, 2, 4, 2, 5, 3, 4, 3, 5, 4, 5);
        });
        sentence("2 RING: m POINTS (3 .. 5), each one joined with the next, the last with the first.", () -> {
            sizes(RING, 3, 5);
            figure(RING, 3, 1, 0, 1, 1, 2, 2, 0);
            figure(RING, 5, 1, 0, 1, 1, 2, 2, 3, 3, 4, 4, 0);
        });
        sentence("3 STAR: one POINT joined with m others (1 .. 6).", () -> {
            sizes(STAR, 1, 6);
            figure(STAR, 1, 2, 0, 1);
            figure(STAR, 6, 1, 3, 0, 3, 1, 3, 2, 3, 4, 3, 5, 3, 6);
        });
        sentence("4 BOOK: two joined POINTS, and m others (1 .. 4), each joined with both.", () -> {
            sizes(BOOK, 1, 4);
            figure(BOOK, 1, 3, 0, 1, 0, 2, 1, 2);
            figure(BOOK, 2, 1, 0, 1, 0, 2, 0, 3, 1, 2, 1, 3);
            figure(BOOK, 4, 1, 2, 3, 2, 0, 2, 1, 2, 4, 2, 5, 3, 0, 3, 1, 3, 4, 3, 5);
        });
        sentence("5 PATH: m POINTS (2 .. 5), each joined with the next one.", () -> {
            sizes(PATH, 2, 5);
            figure(PATH, 2, 1, 0, 1);
            figure(PATH, 5, 1, 2, 0, 0, 4, 4, 1, 1, 3);
        });
        sentence("(Other JOINS do not matter.", () -> {
            due("rings of 4 with all joined", full(4, RING, 4).copies(0), 3);
            due("rings of 5 with all joined", full(5, RING, 5).copies(0), 12);
            due("stars of 3 with all joined", full(4, STAR, 3).copies(0), 4);
            due("stars of 6 with all joined", full(7, STAR, 6).copies(0), 7);
            due("books of 2 with all joined", full(4, BOOK, 2).copies(0), 6);
            due("books of 4 with all joined", full(6, BOOK, 4).copies(0), 15);
            due("paths of 3 with all joined", full(3, PATH, 3).copies(0), 3);
            due("paths of 5 with all joined", full(5, PATH, 5).copies(0), 60);
            due("a path of 4 whose ends are joined", joined(4, PATH, 4, 0, 1, 1, 2, 2, 3, 3, 0).copies(0), 4);
        });
    }

    private static void sizes(int kind, int least, int most) {
        String head = "target(1, " + kind + ", ";
        due(new KeptColours(), head + least + ")", 0);
        due(new KeptColours(), head + most + ")", 0);
        keeps("target(1, 1, 4)", head + (least - 1) + ")", BAD);
        keeps("target(1, 1, 4)", head + (most + 1) + ")", BAD);
    }

    /** So many COPIES, if all these JOINS are there; none, if one of them is missing, is of another COLOUR, or a POINT is. */
    private static void figure(int kind, int size, int copies, int... ends) {
        int n = pointsOf(ends);
        String of = "KIND " + kind + " of " + size;
        due(of, joined(n, kind, size, ends).copies(0), copies);
        due(of + " amid 12", joined(12, kind, size, ends).copies(0), copies);
        due(of + " with one POINT less, all joined", full(n - 1, kind, size).copies(0), 0);
        for (int k = 0; k < ends.length; k += 2) {
            KeptColours x = joined(n, kind, size, ends);
            x.paint(ends[k], ends[k + 1], -1);
            due(of + " without " + ends[k] + ", " + ends[k + 1], x.copies(0), 0);
            x.paint(ends[k], ends[k + 1], 1);
            due(of + " with another COLOUR at " + ends[k] + ", " + ends[k + 1], x.copies(0), 0);
            tried(kind, size, ends, k);
            proved(kind, size, ends, k);
        }
    }

    private static int pointsOf(int[] ends) {
        int n = 0;
        for (int end : ends) {
            n = Math.max(n, end + 1);
        }
        return n;
    }

    /** One JOIN is BARE: with all others there COLOUR 0 makes a COPY, and with one more missing it does not. */
    private static void tried(int kind, int size, int[] ends, int open) {
        KeptColours x = allButOne(kind, size, ends, open);
        due("fill(1) of KIND " + kind + " of " + size, x.fill(1), SPENT);
        due("fill(2) of KIND " + kind + " of " + size, x.fill(2), 1);
        due("the JOIN then", x.colour(ends[open], ends[open + 1]), 1);
        for (int k = 0; k < ends.length; k += 2) {
            if (k != open) {
                KeptColours y = allButOne(kind, size, ends, open);
                y.paint(ends[k], ends[k + 1], 1);
                due("fill(1), no COPY of KIND " + kind + " of " + size, y.fill(1), 1);
                due("the JOIN then", y.colour(ends[open], ends[open + 1]), 0);
            }
        }
    }

    /** These JOINS are of COLOUR 0, one of them is BARE, and all others are of COLOUR 1, which has no TARGET. */
    private static KeptColours allButOne(int kind, int size, int[] ends, int open) {
        int n = pointsOf(ends) + 1;
        KeptColours x = bench(n, 2);
        x.turned((1 << n / 2) - 1);
        x.target(0, kind, size);
        for (int k = 0; k < ends.length; k += 2) {
            x.paint(ends[k], ends[k + 1], k == open ? -1 : 0);
        }
        return x;
    }

    /** The POINTS get other numbers, so that JOIN 0 is the one that is BARE: its two TRIES prove that there is none. */
    private static void proved(int kind, int size, int[] ends, int open) {
        int n = pointsOf(ends);
        int[] number = new int[n];
        int next = 2;
        for (int p = 0; p < n; p++) {
            number[p] = p == ends[open] ? 0 : p == ends[open + 1] ? 1 : next++;
        }
        KeptColours x = bench(12, 2);
        x.target(0, kind, size);
        x.target(1, ALL, 2);
        for (int k = 0; k < ends.length; k += 2) {
            x.paint(number[ends[k]], number[ends[k + 1]], k == open ? -1 : 0);
        }
        int all = (1 << n) - 1;
        due("prove() of KIND " + kind + " of " + size, x.prove(), 2);
        dueRow(x, 0, 0, 0, all);
        dueRow(x, 1, 0, 1, 3);
        due("check()", x.check(), 0);
        int stranger = 1 << n;
        for (int p = 0; p < n; p++) {
            x.forge(0, all ^ 1 << p);
            due("check() without POINT " + p, x.check(), 1);
            x.forge(0, all ^ 1 << p | stranger);
            due("check() with another for POINT " + p, x.check(), 1);
        }
        x.forge(0, all | stranger);
        due("check() with one POINT more", x.check(), 1);
        x.forge(0, all);
        due("check() mended", x.check(), 0);
    }

    // ---- 1 copies

    private static void copyRows() {
        sentence("A COPY of a COLOUR's TARGET: POINTS, no one twice, whose JOINS, as told, all have that COLOUR; told as a row:", () -> {
            noCopy("a path there and back", 3, PATH, 3, 0, 1);
            noCopy("a path of 4 on a triangle", 4, PATH, 4, 0, 1, 1, 2, 2, 0);
            noCopy("a path of 5 on a triangle with a tail", 5, PATH, 5, 0, 1, 1, 2, 2, 0, 2, 3);
            noCopy("a ring of 4 there and back", 4, RING, 4, 0, 1, 1, 2);
            noCopy("a ring of 4 on a star", 5, RING, 4, 0, 1, 0, 2, 0, 3, 0, 4);
            noCopy("a ring of 5 on a triangle with a tail", 5, RING, 5, 0, 1, 1, 2, 2, 0, 2, 3);
            noCopy("a star of 2 on one JOIN", 4, STAR, 2, 0, 1);
            noCopy("a book of 2 on a triangle", 4, BOOK, 2, 0, 1, 1, 2, 2, 0);
            due("a triangle with BARE", bench(3, 2).copies(0), 0);
        });
        sentence("ALL: rising.", () -> {
            dueCopy("5, 3, 1", joined(6, ALL, 3, 5, 3, 3, 1, 1, 5), 0, 1, 3, 5);
            dueCopy("the last two of 12", joined(12, ALL, 2, 11, 10), 0, 10, 11);
        });
        sentence("RING: beginning with the least, the second less than the last.", () -> {
            dueCopy("a ring of 3", joined(6, RING, 3, 5, 3, 3, 1, 1, 5), 0, 1, 3, 5);
            dueCopy("a ring of 4", joined(6, RING, 4, 5, 1, 1, 4, 4, 2, 2, 5), 0, 1, 4, 2, 5);
            dueCopy("a ring of 5", joined(12, RING, 5, 7, 11, 11, 8, 8, 10, 10, 9, 9, 7), 0, 7, 9, 10, 8, 11);
            due("a ring is one COPY", joined(6, RING, 4, 5, 1, 1, 4, 4, 2, 2, 5).copies(0), 1);
        });
        sentence("STAR: the one, then the others, rising.", () -> {
            dueCopy("the one is the greatest", joined(6, STAR, 3, 5, 4, 5, 0, 5, 2), 0, 5, 0, 2, 4);
            dueCopy("of one", joined(6, STAR, 1, 5, 4), 0, 4, 5);
            dueCopy("of six", joined(12, STAR, 6, 8, 11, 8, 0, 8, 5, 8, 6, 8, 7, 8, 1), 0, 8, 0, 1, 5, 6, 7, 11);
            due("either of two may be the one", joined(6, STAR, 1, 5, 4).copies(0), 2);
        });
        sentence("BOOK: the two, rising, then the others, rising.", () -> {
            dueCopy("the two are the greatest", joined(6, BOOK, 2, 5, 4, 5, 0, 4, 0, 5, 2, 4, 2), 0, 4, 5, 0, 2);
            dueCopy("of one", joined(6, BOOK, 1, 5, 4, 4, 2, 2, 5), 0, 2, 4, 5);
            due("any two of three may be the two", joined(6, BOOK, 1, 5, 4, 4, 2, 2, 5).copies(0), 3);
        });
        sentence("PATH: the first less than the last.", () -> {
            dueCopy("of three", joined(6, PATH, 3, 5, 0, 0, 3), 0, 3, 0, 5);
            dueCopy("of two", joined(6, PATH, 2, 5, 3), 0, 3, 5);
            dueCopy("of five", joined(12, PATH, 5, 11, 0, 0, 9, 9, 1, 1, 10), 0, 10, 1, 9, 0, 11);
            due("a path is one COPY", joined(6, PATH, 3, 5, 0, 0, 3).copies(0), 1);
        });
    }

    /** None in all, and none that a TRY at one of these JOINS would see. */
    private static void noCopy(String of, int n, int kind, int size, int... ends) {
        due(of, joined(n, kind, size, ends).copies(0), 0);
        for (int k = 0; k < ends.length; k += 2) {
            KeptColours x = allButOne(kind, size, ends, k);
            due(of + ": fill(1)", x.fill(1), 1);
            due(of + ": clear() then", x.clear(), 1);
        }
    }

    private static void copyOrder() {
        sentence("Each row is a COPY of its own; they are in order, compared POINT by POINT, the lesser first.", () -> {
            due("a star of 1 and its other way", joined(2, STAR, 1, 0, 1).copies(0), 2);
            due("a book of 1 and its other ways", full(3, BOOK, 1).copies(0), 3);
            due("rings of 4 with the same POINTS", full(4, RING, 4).copies(0), 3);
            dueCopy("by the first POINT", joined(9, ALL, 3, 0, 7, 7, 8, 8, 0, 1, 2, 2, 3, 3, 1), 0, 0, 7, 8);
            dueCopy("by the second", joined(6, ALL, 3, 0, 4, 4, 5, 5, 0, 0, 1, 1, 5), 0, 0, 1, 5);
            dueCopy("by the last", joined(6, STAR, 2, 0, 5, 0, 4, 0, 3), 0, 0, 3, 4);
            dueCopy("ring, 0 1 3 2 and no other", joined(4, RING, 4, 0, 1, 1, 3, 3, 2, 2, 0, 0, 3), 0, 0, 1, 3, 2);
            dueCopy("path, the first POINT counts ahead of the middle", joined(6, PATH, 3, 1, 0, 0, 2, 0, 5), 0, 1, 0, 2);
            dueCopy("book, its two count ahead of the others", joined(6, BOOK, 1, 0, 3, 0, 4, 3, 4, 2, 3, 2, 4), 0, 0, 3, 4);
            dueCopy("the first of 47520", full(12, PATH, 5), 0, 0, 1, 2, 3, 4);
        });
    }

    private static void clear() {
        sentence("A COLOURING is CLEAR, if there is no COPY of any COLOUR's.", () -> {
            String calls = "target(0, 1, 3); target(1, 5, 3); target(2, 3, 1)";
            due(Called.bench("net(3, 3); " + calls), "clear()", 1);
            due(Called.bench(painted(3, 3, "00-") + "; " + calls), "clear()", 1);
            due(Called.bench(painted(3, 3, "000") + "; " + calls), "clear()", 0);
            due(Called.bench(painted(3, 3, "011") + "; " + calls), "clear()", 0);
            due(Called.bench(painted(3, 3, "001") + "; " + calls), "clear()", 1);
            due(Called.bench(painted(3, 3, "--2") + "; " + calls), "clear()", 0);
            due(Called.bench(painted(3, 3, "222") + "; target(0, 1, 2); target(1, 1, 2)"), "clear()", 1);
            due(Called.bench("net(1, 3); " + calls), "clear()", 1);
        });
        sentence("CLASHES: all COPIES of all COLOURS.", () -> {
            String calls = "; target(0, 1, 2); target(1, 3, 1); target(2, 5, 3)";
            due(Called.bench(painted(4, 3, "0" + "11" + "222") + calls), "count(3)", 1 + 4 + 3);
            due(Called.bench(painted(4, 3, "------") + calls), "count(3)", 0);
            due(Called.bench("net(1, 3)" + calls), "count(3)", 0);
            due(Called.bench("net(12, 2); turned(0); target(0, 5, 5); target(1, 1, 2)"), "count(3)", 47520);
        });
    }

    // ---- 2 turned colourings

    private static void turned() {
        sentence("TURNED COLOURINGS: the JOIN of i below j has the COLOUR that its STEP has: the less of j - i and n - j + i, 1 .. n / 2;", () -> {
            for (int n = 2; n <= 12; n++) {
                for (int s = 1; s <= n / 2; s++) {
                    KeptColours x = bench(n, 2);
                    due("STEP " + s + " of " + n, x.turned(1 << s - 1), 0);
                    for (int other = 1; other < n; other++) {
                        boolean apart = other == s || other == n - s;
                        due("colour(0, " + other + "), " + n + " POINTS, STEP " + s, x.colour(0, other), apart ? 1 : 0);
                    }
                    due("degree of the last", x.degree(n - 1, 1), 2 * s == n ? 1 : 2);
                }
            }
            KeptColours one = bench(1, 2);
            due(one, "turned(0)", 0);
            due(one, "turned(1)", BAD);
        });
        sentence("number t: STEP s has digit s - 1 of t to the base C (digit 0 the lowest);", () -> {
            KeptColours x = bench(6, 2);
            due(x, "turned(4)", 0);
            dueColours("turned(4)", x, "0" + "00" + "100" + "0100" + "00100");
            KeptColours y = bench(6, 3);
            due(y, "turned(5)", 0);
            dueColours("turned(5)", y, "2" + "12" + "012" + "1012" + "21012");
        });
        sentence("0 .. C^(n / 2) - 1.", () -> {
            int[] twos = {1, 2, 2, 4, 4, 8, 8, 16, 16, 32, 32, 64};
            int[] threes = {1, 3, 3, 9, 9, 27, 27, 81, 81, 243, 243, 729};
            for (int n = 1; n <= 12; n++) {
                due(bench(n, 2), "turned(0)", 0);
                due(bench(n, 2), "turned(" + (twos[n - 1] - 1) + ")", 0);
                due(bench(n, 2), "turned(" + twos[n - 1] + ")", BAD);
                due(bench(n, 3), "turned(" + (threes[n - 1] - 1) + ")", 0);
                due(bench(n, 3), "turned(" + threes[n - 1] + ")", BAD);
                due(bench(n, 3), "turned(-1)", BAD);
            }
        });
    }

    // ---- 3 the list, forms, putting on

    private static void lists() {
        sentence("THE LIST for n POINTS: all WHOLE CLEAR COLOURINGS, in order, numbered from 0.", () -> {
            String calls = "net(3, 2); target(0, 1, 3)";
            due(Called.bench(calls), "list(3, 0)", 7);
            String[] all = {"001", "010", "011", "100", "101", "110", "111"};
            for (int k = 0; k < all.length; k++) {
                KeptColours x = Called.bench(calls);
                due(x, "listed(3, " + k + ")", 3);
                dueColours("listed(3, " + k + ")", x, all[k]);
            }
            changesToSame(calls, "listed(3, 7)", NONE);
            keeps(calls, "listed(3, -1)", BAD);
            String none = "net(3, 2); target(0, 1, 2); target(1, 1, 2)";
            keeps(none, "list(2, 0)", 0);
            changesToSame(none, "listed(2, 0)", NONE);
            keeps(none, "list(1, 0)", 1);
        });
        sentence("(LARGE, if C^(n * (n - 1) / 2) is above 60000.)", () -> {
            due(bench(1, 2), "list(6, 0)", 32768);
            due(bench(1, 3), "list(5, 0)", 59049);
            due(bench(1, 2), "listed(6, 32767)", 15);
            due(bench(1, 3), "listed(5, 59048)", 10);
            changesToSame("net(1, 2)", "listed(6, 32768)", NONE);
            changesToSame("net(1, 3)", "listed(5, 59049)", NONE);
            for (int n = 6; n <= 12; n++) {
                keeps("net(1, 3)", "list(" + n + ", 0)", LARGE);
                keeps("net(1, 3)", "listed(" + n + ", 0)", LARGE);
            }
            for (int n = 7; n <= 12; n++) {
                keeps("net(1, 2)", "list(" + n + ", 1)", LARGE);
                keeps("net(1, 2)", "listed(" + n + ", 0)", LARGE);
            }
            // What is large is the number of all, not of those that are CLEAR.
            keeps(noTriangles(6, 2), "list(7, 0)", LARGE);
        });
    }

    private static void alike() {
        sentence("Two are ALIKE, if the POINTS of one can be numbered otherwise so that it becomes the other one; FORMS: how many there are of which no two are ALIKE.", () -> {
            due(bench(1, 2), "list(1, 1)", 1);
            due(bench(1, 2), "list(2, 1)", 2);
            due(bench(1, 3), "list(2, 1)", 3);
            due(bench(1, 2), "list(3, 1)", 4);
            due(bench(1, 3), "list(3, 1)", 10);
            due(bench(1, 2), "list(6, 1)", 156);
            due(bench(1, 3), "list(5, 1)", 792);
            due(Called.bench(noTriangles(1, 2)), "list(5, 1)", 1);
            due(Called.bench(noTriangles(1, 2)), "list(6, 1)", 0);
        });
        sentence("THE FORM of a COLOURING of up to 7 POINTS (BARE ones too; BARE is less than any COLOUR): the first in order of all that are ALIKE.", () -> {
            due(bench(1, 2), "same()", 1);
            dueForm("two POINTS", bench(2, 2, "1"), "1");
            dueForm("two POINTS, BARE", bench(2, 2), "-");
            dueForm("BARE and each COLOUR", bench(3, 3, "10-"), "-01");
            dueForm("BARE ahead of 0", bench(4, 2, "0" + "0-" + "0--"), "-" + "--" + "000");
            dueForm("0 ahead of 2", bench(4, 3, "2" + "20" + "200"), "0" + "00" + "222");
            dueForm("7 POINTS, one JOIN is not BARE", bench(7, 2, "-0-------------------"), "--------------------0");
            dueForm("7 POINTS, one JOIN is BARE", bench(7, 2, "11111111111111111111-"), "-11111111111111111111");
            keeps("net(8, 2)", "form(0)", LARGE);
            keeps("net(8, 2)", "same()", LARGE);
            keeps("net(12, 3); turned(0)", "form(65)", LARGE);
        });
    }

    private static void putOn() {
        sentence("PUT ON: one more POINT, n, with COLOURS of its JOINS to all others, so that it is CLEAR; such rows of COLOURS are in order by the other POINTS, numbered from 0", () -> {
            String[] onTwo = {"0" + "01", "0" + "10", "0" + "11"};
            String calls = noTriangles(2, 2) + "; turned(0)";
            due(Called.bench(calls), "puts()", onTwo.length);
            for (int k = 0; k < onTwo.length; k++) {
                KeptColours x = Called.bench(calls);
                due(x, "put(" + k + ")", 3);
                dueColours("put(" + k + ")", x, onTwo[k]);
            }
            changesToSame(calls, "put(3)", NONE);
            keeps(calls, "put(-1)", BAD);
            KeptColours three = Called.bench("net(2, 3); turned(2)");
            due(three, "put(5)", 3);
            dueColours("put(5)", three, "2" + "12");
            KeptColours one = bench(1, 3);
            due(one, "put(2)", 2);
            dueColours("put(2)", one, "2");
            changesToSame("net(1, 3)", "put(3)", NONE);
        });
        sentence("(LARGE, if C^n is above 60000).", () -> {
            due(Called.bench("net(10, 3); turned(0)"), "puts()", 59049);
            due(Called.bench("net(10, 3); turned(0)"), "put(59048)", 11);
            changesToSame("net(10, 3); turned(0)", "put(59049)", NONE);
            due(Called.bench("net(11, 2); turned(0)"), "puts()", 2048);
            due(Called.bench("net(11, 2); turned(0)"), "put(2047)", 12);
            changesToSame("net(11, 2); turned(0)", "put(2048)", NONE);
            keeps("net(11, 3); turned(0)", "puts()", LARGE);
            keeps("net(11, 3); turned(0)", "put(0)", LARGE);
        });
    }

    // ---- 4 filling

    private static void filling() {
        sentence("FILLING: JOINS that are BARE, by their numbers, get COLOURS so that there is no COPY:", () -> {
            dueFilled(painted(4, 2, "-1-0--") + "; target(1, 3, 2)", 4, "010000");
            dueFilled(painted(3, 2, "1-1") + "; target(0, 1, 2)", 2, "111");
            dueFilled(painted(3, 2, "110") + "; target(0, 1, 3)", 0, "110");
            dueFilled("net(1, 2); target(0, 1, 2); target(1, 1, 2)", 0, "");
        });
        sentence("a TRY gives the next one the least COLOUR that was not tried for it there;", () -> {
            dueFilled("net(3, 2)", 3, "000");
            dueFilled("net(3, 2); target(0, 1, 2)", 6, "111");
            dueFilled("net(3, 3); target(0, 1, 2); target(1, 1, 2)", 9, "222");
        });
        sentence("if there is a COPY then, or what comes behind it fails, the next COLOUR is tried;", () -> {
            dueFilled("net(3, 2); target(0, 1, 3)", 4, "001");
            // 0 0 1 0 1 fails at the last JOIN with either COLOUR, so that the fourth gets its next one.
            dueFilled(noTriangles(4, 2), 12, "001100");
        });
        sentence("if there is none more, it is BARE again, and the one ahead goes on.", () -> {
            KeptColours x = Called.bench(painted(3, 2, "-1-") + "; target(0, 5, 3); target(1, 5, 3)");
            due(x, "fill(4)", 0);
            dueColours("fill(4)", x, "-1-");
            due(x, "prove()", 4);
            dueRow(x, 0, 0, 0, 0);
            dueRow(x, 1, 2, 0, 7);
            dueRow(x, 2, 2, 1, 7);
            dueRow(x, 3, 0, 1, 7);
        });
        sentence("It ends with the first that is WHOLE and CLEAR, or none;", () -> {
            for (String targets : new String[] {"", "target(0, 2, 3)", "target(0, 3, 3); target(1, 2, 4)", "target(0, 4, 1); target(1, 5, 5)"}) {
                KeptColours listed = Called.bench("net(5, 2); " + targets + "; listed(5, 0)");
                KeptColours filled = Called.bench("net(5, 2); " + targets);
                due(filled, "fill(20000)", 1);
                dueColours("fill(20000) with " + targets, filled, coloursOf(listed));
            }
            changesToSame("net(2, 2); target(0, 1, 2); target(1, 1, 2)", "listed(2, 0)", NONE);
            due(Called.bench("net(2, 2); target(0, 1, 2); target(1, 1, 2)"), "fill(2)", 0);
        });
    }

    /** Found with just so many TRIES, and not with one less. */
    private static void dueFilled(String calls, int tries, String want) {
        KeptColours x = Called.bench(calls);
        due(x, "fill(" + Math.max(1, tries) + ")", 1);
        dueColours("fill", x, want);
        due(x, "tries()", tries);
        if (tries > 1) {
            keeps(calls, "fill(" + (tries - 1) + ")", SPENT);
        }
    }

    private static void spent() {
        sentence("SPENT, if more than so many TRIES would be done.", () -> {
            keeps(noTriangles(6, 2), "fill(1)", SPENT);
            keeps(noTriangles(6, 2), "fill(649)", SPENT);
            due(Called.bench(noTriangles(6, 2)), "fill(650)", 0);
            due(Called.bench(noTriangles(6, 2)), "fill(651)", 0);
            keeps("net(12, 2)", "fill(65)", SPENT);
            due(Called.bench("net(12, 2)"), "fill(66)", 1);
            keeps("net(2, 2); target(0, 1, 2); target(1, 1, 2)", "fill(1)", SPENT);
        });
        sentence("(If there is a COPY at the beginning it is none, with 0 TRIES.)", () -> {
            // COLOUR 1 has the COPY, and what is BARE could be filled.
            KeptColours x = Called.bench(painted(3, 2, "1--") + "; target(1, 1, 2); fill(1)");
            due(x, "fill(1)", 0);
            due(x, "tries()", 0);
            KeptColours whole = Called.bench(painted(3, 2, "000") + "; target(0, 2, 3)");
            due(whole, "fill(1)", 0);
            due(whole, "tries()", 0);
            KeptColours behind = Called.bench("net(3, 2); fill(3); target(0, 1, 2)");
            due(behind, "tries()", 3);
            due(behind, "fill(1)", 0);
            due(behind, "tries()", 0);
        });
    }

    // ---- 4 proofs

    private static void proofs() {
        sentence("A PROOF has rows, one for each TRY of a FILLING that found none, in their order: JOIN, COLOUR, and the POINTS, as bits, of the first COPY (of that COLOUR) that there is with it;", () -> {
            KeptColours least = Called.bench("net(2, 2); target(0, 1, 2); target(1, 5, 2)");
            due(least, "fill(2)", 0);
            due(least, "prove()", 2);
            dueRow(least, 0, 0, 0, 3);
            dueRow(least, 1, 0, 1, 3);
            KeptColours three = Called.bench("net(2, 3); target(0, 1, 2); target(1, 5, 2); target(2, 3, 1)");
            due(three, "prove()", 3);
            dueRow(three, 2, 0, 2, 3);
            // Two triangles come with the JOIN of 0 and 1.
            KeptColours two = Called.bench(painted(4, 2, "-" + "00" + "001") + "; target(0, 1, 3); target(1, 3, 1); paint(2, 3, -1)");
            due(two, "fill(5)", 0);
            due(two, "prove()", 2);
            dueRow(two, 0, 0, 0, 7);
            dueRow(two, 1, 0, 1, 3);
            KeptColours last = Called.bench(LAST_JOIN_BARE);
            due(last, "prove()", 2);
            dueRow(last, 0, 65, 0, 1 << 8 | 1 << 9 | 1 << 10 | 1 << 11);
            dueRow(last, 1, 65, 1, 1 | 1 << 2 | 1 << 4 | 1 << 6 | 1 << 10 | 1 << 11);
        });
        sentence("0, if there is none (then what comes behind it follows).", () -> {
            KeptColours x = Called.bench(PROVED);
            dueRow(x, 0, 0, 0, 0);
            dueRow(x, 1, 1, 0, 7);
            dueRow(x, 2, 1, 1, 0);
            dueRow(x, 3, 2, 0, 7);
            dueRow(x, 4, 2, 1, 7);
            dueRow(x, 5, 0, 1, 0);
            dueRow(x, 9, 1, 1, 7);
        });
    }

    private static void holds() {
        sentence("It HOLDS, if its rows are just TRIES in the order told,", () -> {
            due(Called.bench(PROVED), "check()", 0);
            due(Called.bench(LAST_JOIN_BARE + "; prove()"), "check()", 0);
            // As row 1 has no POINTS now, JOIN 2 is due, and row 2 is still one of JOIN 1.
            due(Called.bench(PROVED + "; forge(1, 0)"), "check()", 3);
            due(Called.bench(PROVED + "; forge(4, 0)"), "check()", 6);
        });
        sentence("where each with POINTS that are not 0 has a COPY of that COLOUR of just these POINTS in which that JOIN is,", () -> {
            String two = painted(4, 2, "-" + "00" + "00-") + "; target(0, 1, 3); target(1, 1, 2); prove()";
            due(Called.bench(two + "; forge(0, 11)"), "check()", 0);
            due(Called.bench(two + "; forge(0, 15)"), "check()", 1);
            due(Called.bench(two + "; forge(0, 3)"), "check()", 1);
            due(Called.bench(two + "; forge(0, 14)"), "check()", 1);
            due(Called.bench(two + "; forge(0, 4095)"), "check()", 1);
            due(Called.bench(two + "; forge(0, 2055)"), "check()", 1);
            due(Called.bench(two + "; forge(1, 7)"), "check()", 2);
            due(Called.bench(two + "; forge(1, 5)"), "check()", 2);
            due(Called.bench(PROVED + "; forge(0, 3)"), "check()", 1);
            due(Called.bench(PROVED + "; forge(9, 4095)"), "check()", 10);
        });
        sentence("and each with 0 goes on with a JOIN that is BARE still;", () -> {
            String lastOne = painted(3, 2, "00-") + "; target(0, 1, 3); target(1, 1, 2); prove()";
            due(Called.bench(lastOne), "count(5)", 2);
            due(Called.bench(lastOne + "; forge(0, 0)"), "check()", 1);
            due(Called.bench(lastOne + "; forge(1, 0)"), "check()", 2);
            due(Called.bench(LAST_JOIN_BARE + "; prove(); forge(1, 0)"), "check()", 2);
        });
        sentence("and all are used.", () -> {
            due(Called.bench(PROVED), "check()", 0);
            due(Called.bench(PROVED + "; forge(9, 0)"), "check()", 11);
        });
    }

    // ---- 5 steps

    private static void steps() {
        sentence("A STEP: of all JOINS and COLOURS by which, one JOIN having another COLOUR, CLASHES are less than they are,", () -> {
            KeptColours asMany = Called.bench(painted(3, 2, "000") + "; target(0, 1, 3); target(1, 1, 2)");
            due(asMany, "step(30)", 0);
            dueColours("step(30)", asMany, "000");
            due(asMany, "count(3)", 1);
            for (String oneJoin : new String[] {"1, 2", "5, 2"}) {
                KeptColours back = Called.bench(painted(3, 2, "001") + "; target(0, 1, 3); target(1, " + oneJoin + ")");
                due(back, "step(30)", 0);
                dueColours("step(30)", back, "001");
            }
            KeptColours twice = Called.bench(painted(3, 2, "001") + "; target(0, 1, 3); target(1, 3, 1)");
            due(twice, "step(30)", 1);
            dueColours("step(30)", twice, "000");
            KeptColours less = Called.bench(painted(3, 2, "000") + "; target(0, 1, 3)");
            due(less, "step(30)", 1);
            due(less, "count(3)", 0);
            due(bench(1, 2), "step(30)", 0);
        });
        sentence("that with which they are least, of several the least JOIN, then the least COLOUR.", () -> {
            dueStep(painted(4, 2, "1" + "00" + "000") + "; target(0, 1, 3)", "1" + "00" + "001");
            dueStep(painted(4, 2, "000" + "000") + "; target(0, 1, 3)", "100" + "000");
            dueStep(painted(3, 3, "000") + "; target(0, 1, 3)", "100");
            dueStep(painted(3, 3, "222") + "; target(2, 1, 3)", "022");
            dueStep(painted(3, 3, "000") + "; target(0, 1, 3); target(1, 1, 2)", "200");
            // JOIN 0 in COLOUR 1 makes a path, in 2 none; JOIN 1 in COLOUR 1 makes none either, but stands behind.
            dueStep(painted(4, 3, "000212") + "; target(0, 1, 3); target(1, 5, 3)", "200212");
        });
        sentence("Of a COLOURING that is WHOLE.", () -> {
            keeps(painted(3, 2, "00-") + "; target(0, 5, 2)", "step(1)", NO);
            keeps(painted(3, 2, "-00") + "; target(0, 5, 2)", "step(30)", NO);
            due(Called.bench(painted(3, 2, "000") + "; target(0, 5, 2)"), "step(1)", 1);
        });
    }

    private static void dueStep(String calls, String want) {
        KeptColours x = Called.bench(calls);
        due(x, "step(1)", 1);
        dueColours("step(1)", x, want);
    }

    // ---- 6 changes

    private static void changes() {
        sentence("CHANGES are the calls of net, target, paint, turned, listed, put, drop, fill, step that are not refused;", () -> {
            changes("paint(0, 1, 1)", "net(3, 3)", 3);
            changes("", "target(0, 1, 3)", 0);
            changes("", "paint(0, 1, 0)", -1);
            changes("", "turned(1)", 0);
            changes("", "listed(3, 2)", 3);
            changes("net(1, 2)", "put(0)", 2);
            changes("", "drop()", 5);
            changes("", "fill(15)", 1);
            changes("turned(0); target(0, 1, 3)", "step(1)", 1);
            // They are CHANGES too where all is then as it was.
            changesToSame("", "net(6, 2)", 15);
            changesToSame("target(0, 1, 3)", "target(0, 1, 3)", 0);
            changesToSame("paint(0, 1, 0)", "paint(0, 1, 0)", 0);
            changesToSame("", "paint(0, 1, -1)", -1);
            changesToSame("turned(1)", "turned(1)", 0);
            changesToSame("listed(3, 2)", "listed(3, 2)", 3);
            changesToSame("turned(1)", "fill(1)", 1);
            changesToSame("turned(1)", "step(1)", 0);
            // NONE is not among the answers of calls that are refused.
            changesToSame("paint(0, 1, 1)", "listed(2, 2)", NONE);
            changesToSame("net(2, 2); turned(1)", "put(4)", NONE);
            changesToSame(SIX_KEPT, "listed(1, 1)", NONE);
            changesToSame(SIX_KEPT, "put(2)", NONE);
            dueBehindSix("listed(1, 1)");
            dueBehindSix("put(2)");
        });
        sentence("undo() takes back the latest one that is kept (NET, TARGETS, COLOURING);", () -> {
            keeps("", "undo()", NO);
            KeptColours x = Called.bench("net(3, 3); target(2, 2, 5); paint(0, 1, 2); net(12, 2)");
            due(x, "undo()", 3);
            dueText("NET, TARGETS, COLOURING", netOf(x), "3/3 0:0 0:0 2:5 2--");
            due(x, "undo()", 2);
            dueText("NET, TARGETS, COLOURING", netOf(x), "3/3 0:0 0:0 2:5 ---");
            due(x, "undo()", 1);
            dueText("NET, TARGETS, COLOURING", netOf(x), "3/3 0:0 0:0 0:0 ---");
            due(x, "undo()", 0);
            dueText("NET, TARGETS, COLOURING", netOf(x), netOf(new KeptColours()));
            due(x, "undo()", NO);
        });
    }

    private static final String SIX_KEPT = "net(6, 2); net(5, 2); net(4, 2); net(3, 2); net(2, 2); net(1, 2)";

    /** That call, as a CHANGE, is taken back first, and the oldest of six is kept no more. */
    private static void dueBehindSix(String call) {
        KeptColours x = Called.bench(SIX_KEPT + "; " + call);
        int[] behind = {1, 2, 3, 4, 5, 6};
        for (int k = 0; k < behind.length; k++) {
            due(call + ", undo()", x.undo(), 5 - k);
            due(call + ", undo(), count(0)", x.count(0), behind[k]);
        }
        due(call + ", undo()", x.undo(), NO);
    }

    /** Six CHANGES that were taken back, so that none is kept, with a PROOF. */
    private static final String PROVED_NONE_KEPT = "target(0, 5, 3); target(1, 5, 3); net(4, 2); "
            + "drop(); drop(); net(9, 2); net(9, 3); net(1, 2); net(2, 2); undo(); undo(); undo(); undo(); undo(); undo(); prove()";

    private static void kept() {
        sentence("the latest 6 are kept.", () -> {
            KeptColours x = new KeptColours();
            for (int n = 1; n <= 9; n++) {
                due(x, "net(" + n + ", 2)", n * (n - 1) / 2);
                due(x, "count(4)", Math.min(n, 6));
            }
            // Round the six places: three back, five anew, of which one pushes the oldest out.
            for (int left = 5; left >= 3; left--) {
                due(x, "undo()", left);
            }
            due(x, "count(0)", 6);
            for (int n = 12; n >= 8; n--) {
                due(x, "net(" + n + ", 3)", n * (n - 1) / 2);
            }
            int[] behind = {9, 10, 11, 12, 6, 5};
            for (int k = 0; k < behind.length; k++) {
                due(x, "undo()", 5 - k);
                due(x, "count(0)", behind[k]);
            }
            due(x, "undo()", NO);
            due(x, "count(0)", 5);
            due(x, "count(4)", 0);
        });
        sentence("A PROOF is none any more as one is done, or taken back.", () -> {
            for (String call : new String[] {
                "net(4, 2)", "target(0, 5, 3)", "target(1, 0, 0)", "paint(0, 1, -1)", "paint(2, 3, 0)", "turned(0)", "listed(2, 1)", "listed(4, 0)", "drop()", "undo()"}) {
                KeptColours x = Called.bench(PROVED);
                due(x, "count(5)", 10);
                Called.call(x, call);
                due(call + " then count(5)", x.count(5), 0);
                due(call + " then row(0, 0)", x.row(0, 0), NO);
                due(call + " then forge(0, 0)", x.forge(0, 0), NO);
                due(call + " then check()", x.check(), NO);
                x.undo();
                due(call + " then undo(), count(5)", x.count(5), 0);
            }
            keeps(PROVED_NONE_KEPT, "undo()", NO);
            due(Called.bench(PROVED_NONE_KEPT + "; undo()"), "check()", 0);
            for (String call : new String[] {
                "net(13, 2)", "target(2, 1, 3)", "paint(0, 0, 0)", "turned(-1)", "turned(4)", "listed(4, -1)", "listed(7, 0)",
                "put(0)", "fill(0)", "fill(9)", "fill(20001)", "step(1)", "step(31)", "row(10, 0)", "forge(10, 0)"}) {
                KeptColours x = Called.bench(PROVED);
                Called.call(x, call);
                due(call + ", refused, then count(5)", x.count(5), 10);
                due(call + ", refused, then check()", x.check(), 0);
            }
            due(Called.bench(PROVED + "; fill(10)"), "check()", 0);
        });
    }
}
