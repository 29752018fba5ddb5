/**
 * The document's promises, one method each, with answers worked out by hand or known from elsewhere
 * (how many graphs there are, Ramsey's and Goodman's numbers): ordinary calls, edges and wrong ones.
 */
public final class PromisesTest extends Asked {
    public static void main(String[] args) {
        Runnable[] promises = {
            PromisesTest::newObject, PromisesTest::net, PromisesTest::target, PromisesTest::paint, PromisesTest::colour,
            PromisesTest::aim, PromisesTest::isOf, PromisesTest::clear, PromisesTest::copies, PromisesTest::copy,
            PromisesTest::degree, PromisesTest::triangles, PromisesTest::least, PromisesTest::turned, PromisesTest::turns,
            PromisesTest::list, PromisesTest::listed, PromisesTest::form, PromisesTest::same, PromisesTest::puts,
            PromisesTest::put, PromisesTest::drop, PromisesTest::fill, PromisesTest::tries, PromisesTest::prove,
            PromisesTest::row, PromisesTest::forge, PromisesTest::check, PromisesTest::step, PromisesTest::undo,
            PromisesTest::count};
        for (int i = 0; i < promises.length; i++) {
            at("promise " + (i + 1));
            int before = askedSoFar();
            promises[i].run();
            if (askedSoFar() == before) {
                fault("it was not asked for");
            }
        }
        endWith(promises.length + " promises");
    }

    // ---- benches

    private static KeptColours proved() {
        return Called.bench(PROVED);
    }

    /** Paths of 4 are kept off, and all JOINS of COLOUR 1: JOIN 1 is amid the path 1, 0, 2, 3. */
    private static KeptColours middleJoin() {
        KeptColours x = bench(4, 2, "0" + "--" + "--0");
        x.target(0, PATH, 4);
        x.target(1, ALL, 2);
        due("prove()", x.prove(), 2);
        return x;
    }

    // ---- the promises

    private static void newObject() {
        KeptColours x = new KeptColours();
        int[] counts = {6, 2, 15, 0, 0, 0};
        for (int what = 0; what < 6; what++) {
            due("count(" + what + ")", x.count(what), counts[what]);
        }
        dueColours("new", x, "---------------");
        due("aim(0, 0)", x.aim(0, 0), 0);
        due("aim(1, 0)", x.aim(1, 0), 0);
        due("aim(1, 1)", x.aim(1, 1), 0);
        due("aim(2, 0)", x.aim(2, 0), BAD);
        due("tries()", x.tries(), 0);
        due("clear()", x.clear(), 1);
        due("undo()", x.undo(), NO);
        due("check()", x.check(), NO);
    }

    private static void net() {
        KeptColours x = bench(4, 3);
        x.target(0, RING, 4);
        x.target(2, STAR, 6);
        x.paint(1, 3, 2);
        for (int n : new int[] {0, -1, 13, MIN, MAX}) {
            keeps(x, "net(" + n + ", 2)", BAD, () -> x.net(n, 2));
        }
        for (int c : new int[] {1, 0, -1, 4, MIN, MAX}) {
            keeps(x, "net(5, " + c + ")", BAD, () -> x.net(5, c));
        }
        changes(x, "net(5, 3)", 10, () -> x.net(5, 3));
        dueColours("net(5, 3)", x, "----------");
        due("aim(0, 0)", x.aim(0, 0), RING);
        due("aim(2, 1)", x.aim(2, 1), 6);
        changes(x, "net(5, 2)", 10, () -> x.net(5, 2));
        due("aim(0, 1)", x.aim(0, 1), 4);
        x.net(5, 3);
        due("aim(2, 0)", x.aim(2, 0), 0);
        due("aim(2, 1)", x.aim(2, 1), 0);
        for (int n = 1; n <= 12; n++) {
            due("net(" + n + ", 2)", x.net(n, 2), n * (n - 1) / 2);
        }
    }

    private static void target() {
        KeptColours x = bench(5, 2);
        int[] least = {0, 2, 3, 1, 1, 2};
        int[] most = {0, 6, 5, 6, 4, 5};
        for (int kind = 0; kind <= 5; kind++) {
            for (int size = -1; size <= 8; size++) {
                int k = kind;
                int s = size;
                String call = "target(1, " + k + ", " + s + ")";
                if (size < least[kind] || size > most[kind]) {
                    keeps(x, call, BAD, () -> x.target(1, k, s));
                } else {
                    changes(x, call, 0, () -> x.target(1, k, s));
                    due("aim(1, 0)", x.aim(1, 0), k);
                    due("aim(1, 1)", x.aim(1, 1), s);
                }
            }
        }
        keeps(x, "target(2, 1, 3)", BAD, () -> x.target(2, 1, 3));
        keeps(x, "target(-1, 1, 3)", BAD, () -> x.target(-1, 1, 3));
        keeps(x, "target(0, -1, 0)", BAD, () -> x.target(0, -1, 0));
        keeps(x, "target(0, 6, 3)", BAD, () -> x.target(0, 6, 3));
        keeps(x, "target(0, MAX, 3)", BAD, () -> x.target(0, MAX, 3));
        keeps(x, "target(0, 1, MIN)", BAD, () -> x.target(0, 1, MIN));
        x.net(5, 3);
        changes(x, "target(2, 1, 3)", 0, () -> x.target(2, 1, 3));
        keeps(x, "target(3, 1, 3)", BAD, () -> x.target(3, 1, 3));
    }

    private static void paint() {
        KeptColours x = bench(4, 2);
        changes(x, "paint(1, 3, 0)", -1, () -> x.paint(1, 3, 0));
        dueColours("paint(1, 3, 0)", x, "----0-");
        due("paint(3, 1, 1)", x.paint(3, 1, 1), 0);
        dueColours("paint(3, 1, 1)", x, "----1-");
        changes(x, "paint(1, 3, 1)", 1, () -> x.paint(1, 3, 1));
        due("paint(1, 3, -1)", x.paint(1, 3, -1), 1);
        dueColours("paint(1, 3, -1)", x, "------");
        int[][] bad = {{0, 0, 1}, {0, 4, 1}, {4, 0, 1}, {-1, 0, 1}, {0, -1, 1}, {0, 1, 2}, {0, 1, -2}, {MIN, 1, 0}, {1, MAX, 0}, {0, 1, MIN}, {0, 1, MAX}};
        for (int[] b : bad) {
            keeps(x, "paint(" + b[0] + ", " + b[1] + ", " + b[2] + ")", BAD, () -> x.paint(b[0], b[1], b[2]));
        }
        x.net(12, 3);
        due("paint(11, 10, 2)", x.paint(11, 10, 2), -1);
        due("paint(10, 11, 0)", x.paint(10, 11, 0), 2);
    }

    private static void colour() {
        KeptColours x = bench(12, 3);
        x.paint(10, 11, 2);
        keeps(x, "colour(10, 11)", 2, () -> x.colour(10, 11));
        due("colour(11, 10)", x.colour(11, 10), 2);
        due("colour(0, 11)", x.colour(0, 11), -1);
        int[][] bad = {{0, 0}, {11, 11}, {0, 12}, {12, 0}, {-1, 0}, {0, -1}, {MIN, MAX}, {MAX, 1}};
        for (int[] b : bad) {
            keeps(x, "colour(" + b[0] + ", " + b[1] + ")", BAD, () -> x.colour(b[0], b[1]));
        }
        x.net(1, 2);
        due("colour(0, 0)", x.colour(0, 0), BAD);
    }

    private static void aim() {
        KeptColours x = bench(5, 3);
        x.target(2, BOOK, 4);
        keeps(x, "aim(2, 0)", BOOK, () -> x.aim(2, 0));
        due("aim(2, 1)", x.aim(2, 1), 4);
        due("aim(1, 1)", x.aim(1, 1), 0);
        int[][] bad = {{3, 0}, {-1, 0}, {0, 2}, {0, -1}, {MAX, 1}, {1, MIN}};
        for (int[] b : bad) {
            keeps(x, "aim(" + b[0] + ", " + b[1] + ")", BAD, () -> x.aim(b[0], b[1]));
        }
    }

    private static void isOf() {
        KeptColours x = bench(5, 2);
        for (int kind = 0; kind <= 5; kind++) {
            x.target(1, kind, kind == 0 ? 0 : 3);
            for (int asks = 0; asks <= 6; asks++) {
                boolean fits = asks == kind || asks == 6 && (kind == RING || kind == PATH);
                due("isOf(1, " + asks + ") of " + kind, x.isOf(1, asks), fits ? 1 : 0);
            }
        }
        int[][] bad = {{2, 0}, {-1, 0}, {0, 7}, {0, -1}, {MIN, 1}, {0, MAX}};
        for (int[] b : bad) {
            keeps(x, "isOf(" + b[0] + ", " + b[1] + ")", BAD, () -> x.isOf(b[0], b[1]));
        }
    }

    private static void clear() {
        KeptColours x = bench(3, 2, "00-");
        due("clear() without TARGETS", x.clear(), 1);
        x.target(1, ALL, 2);
        due("clear() of another COLOUR's", x.clear(), 1);
        x.target(0, ALL, 3);
        due("clear() with a JOIN that is BARE", x.clear(), 1);
        x.paint(1, 2, 0);
        keeps(x, "clear() with a triangle", 0, x::clear);
        x.paint(1, 2, 1);
        due("clear() with COLOUR 1", x.clear(), 0);
        x.target(1, 0, 0);
        due("clear() with no TARGET there", x.clear(), 1);
        x.net(1, 3);
        due("clear() of one POINT", x.clear(), 1);
    }

    private static void copies() {
        for (int n = 1; n <= 12; n++) {
            for (int m = 2; m <= 6; m++) {
                due("ALL " + m + " of " + n, full(n, ALL, m).copies(0), m > n ? 0 : choose(n, m));
            }
            for (int m = 3; m <= 5; m++) {
                due("RING " + m + " of " + n, full(n, RING, m).copies(0), m > n ? 0 : falling(n, m) / (2 * m));
            }
            for (int m = 1; m <= 6; m++) {
                due("STAR " + m + " of " + n, full(n, STAR, m).copies(0), m >= n ? 0 : n * choose(n - 1, m));
            }
            for (int m = 1; m <= 4; m++) {
                due("BOOK " + m + " of " + n, full(n, BOOK, m).copies(0), m + 2 > n ? 0 : choose(n, 2) * choose(n - 2, m));
            }
            for (int m = 2; m <= 5; m++) {
                due("PATH " + m + " of " + n, full(n, PATH, m).copies(0), m > n ? 0 : falling(n, m) / 2);
            }
        }
        KeptColours x = joined(6, STAR, 1, 1, 3);
        keeps(x, "STAR 1: either may be the one", 2, () -> x.copies(0));
        due("COLOUR 1 has none", x.copies(1), 0);
        due("no TARGET", bench(4, 2, "000000").copies(0), 0);
        due("BARE is no COLOUR", joined(6, ALL, 3, 0, 1, 0, 2).copies(0), 0);
        for (int c : new int[] {2, -1, MIN, MAX}) {
            keeps(x, "copies(" + c + ")", BAD, () -> x.copies(c));
        }
    }

    private static void copy() {
        dueCopy("ALL", joined(6, ALL, 4, 5, 1, 5, 2, 5, 4, 1, 2, 1, 4, 2, 4), 0, 1, 2, 4, 5);
        dueCopy("RING", joined(6, RING, 4, 0, 3, 3, 1, 1, 2, 2, 0), 0, 0, 2, 1, 3);
        dueCopy("RING of 5", joined(6, RING, 5, 1, 5, 5, 2, 2, 4, 4, 3, 3, 1), 0, 1, 3, 4, 2, 5);
        dueCopy("STAR", joined(6, STAR, 2, 5, 2, 0, 5), 0, 5, 0, 2);
        dueCopy("STAR of one", joined(6, STAR, 1, 4, 3), 0, 3, 4);
        dueCopy("BOOK", joined(6, BOOK, 2, 4, 2, 2, 5, 2, 0, 4, 0, 4, 5), 0, 2, 4, 0, 5);
        dueCopy("PATH", joined(6, PATH, 4, 4, 0, 0, 5, 5, 1), 0, 1, 5, 0, 4);
        dueCopy("PATH of two", joined(6, PATH, 2, 4, 2), 0, 2, 4);
        dueCopy("the first of all", full(12, STAR, 6), 0, 0, 1, 2, 3, 4, 5, 6);
        dueCopy("the first of all", full(12, BOOK, 4), 0, 0, 1, 2, 3, 4, 5);
        dueCopy("the first of all", full(12, PATH, 5), 0, 0, 1, 2, 3, 4);
        dueCopy("a second POINT fails, then another", joined(6, PATH, 3, 0, 1, 0, 4, 4, 5), 0, 0, 4, 5);
        KeptColours x = joined(6, ALL, 3, 0, 1);
        keeps(x, "copy(0, 0) of none", NONE, () -> x.copy(0, 0));
        keeps(x, "copy(1, 0) of no TARGET", NONE, () -> x.copy(1, 0));
        int[][] bad = {{0, -1}, {2, 0}, {-1, 0}, {0, MIN}, {MAX, 0}};
        for (int[] b : bad) {
            keeps(x, "copy(" + b[0] + ", " + b[1] + ")", BAD, () -> x.copy(b[0], b[1]));
        }
        due("copy(0, MAX)", x.copy(0, MAX), NONE);
        due("copy(0, MAX) of one", full(5, ALL, 3).copy(0, MAX), NONE);
    }

    private static void degree() {
        KeptColours x = bench(4, 3, "0120-1");
        keeps(x, "degree(0, 0)", 2, () -> x.degree(0, 0));
        due("degree(0, 1)", x.degree(0, 1), 1);
        due("degree(3, 1)", x.degree(3, 1), 1);
        due("degree(2, 2)", x.degree(2, 2), 1);
        due("degree(3, -1)", x.degree(3, -1), 1);
        due("degree(0, -1)", x.degree(0, -1), 0);
        int[][] bad = {{4, 0}, {-1, 0}, {0, 3}, {0, -2}, {MIN, 0}, {0, MAX}};
        for (int[] b : bad) {
            keeps(x, "degree(" + b[0] + ", " + b[1] + ")", BAD, () -> x.degree(b[0], b[1]));
        }
        due("degree(11, -1)", bench(12, 2).degree(11, -1), 11);
        due("degree(0, 2) of 2 COLOURS", bench(3, 2).degree(0, 2), BAD);
    }

    private static void triangles() {
        due("all BARE", bench(6, 2).triangles(), 0);
        due("all of one COLOUR", full(12, ALL, 6).triangles(), 220);
        due("one, and others that are mixed", bench(5, 3, "0" + "00" + "1--" + "12-2").triangles(), 1);
        KeptColours x = bench(6, 3, "0" + "00" + "---" + "---2" + "---22");
        keeps(x, "one of 0, one of 2", 2, x::triangles);
        due("one POINT", bench(1, 2).triangles(), 0);
    }

    private static void least() {
        KeptColours x = new KeptColours();
        int[] goodman = {0, 0, 0, 0, 0, 2, 4, 8, 12, 20, 28, 40};
        for (int n = 1; n <= 12; n++) {
            due("least(" + n + ")", x.least(n), goodman[n - 1]);
        }
        for (int n : new int[] {0, -1, 13, MIN, MAX}) {
            keeps(x, "least(" + n + ")", BAD, () -> x.least(n));
        }
    }

    private static void turned() {
        KeptColours x = bench(5, 2);
        x.target(1, ALL, 2);
        changes(x, "turned(1)", 5, () -> x.turned(1));
        dueColours("turned(1)", x, "1" + "01" + "001" + "1001");
        changes(x, "turned(3)", 10, () -> x.turned(3));
        for (int t : new int[] {-1, 4, MIN, MAX}) {
            keeps(x, "turned(" + t + ")", BAD, () -> x.turned(t));
        }
        KeptColours y = bench(4, 3);
        due("turned(5) of 4 POINTS", y.turned(5), 0);
        dueColours("turned(5)", y, "2" + "12" + "212");
        due("turned(8)", y.turned(8), 0);
        keeps(y, "turned(9)", BAD, () -> y.turned(9));
        y.net(12, 3);
        due("turned(728)", y.turned(728), 0);
        keeps(y, "turned(729)", BAD, () -> y.turned(729));
        y.net(1, 2);
        changes(y, "turned(0) of one POINT", 0, () -> y.turned(0));
        keeps(y, "turned(1) of one POINT", BAD, () -> y.turned(1));
    }

    private static void turns() {
        KeptColours x = Called.bench(noTriangles(5, 2));
        x.paint(0, 1, 1);
        keeps(x, "turns(0)", 2, () -> x.turns(0));
        keeps(x, "turns(1)", 1, () -> x.turns(1));
        keeps(x, "turns(2)", 2, () -> x.turns(2));
        for (int what : new int[] {-1, 3, MIN, MAX}) {
            keeps(x, "turns(" + what + ")", BAD, () -> x.turns(what));
        }
        x.net(6, 2);
        keeps(x, "turns(0) of none", 0, () -> x.turns(0));
        keeps(x, "turns(1) of none", NONE, () -> x.turns(1));
        keeps(x, "turns(2) of none", NONE, () -> x.turns(2));
        // With 8 POINTS no triangle and no 4 all joined: STEPS 1 and 4, or 3 and 4, in COLOUR 0.
        KeptColours y = bench(8, 2);
        y.target(0, ALL, 3);
        y.target(1, ALL, 4);
        due("turns(0) of 3 and 4", y.turns(0), 2);
        due("turns(1) of 3 and 4", y.turns(1), 3);
        due("turns(2) of 3 and 4", y.turns(2), 6);
        y.net(9, 2);
        due("turns(0) of 9 POINTS", y.turns(0), 0);
        due("turns(2) without TARGETS", bench(12, 3).turns(2), 728);
        due("turns(0) of one POINT", bench(1, 2).turns(0), 1);
    }

    private static void list() {
        dueLists("graphs", bench(1, 2), new int[] {1, 2, 8, 64, 1024, 32768}, new int[] {1, 2, 4, 11, 34, 156});
        dueLists("in 3 COLOURS", bench(1, 3), new int[] {1, 3, 27, 729, 59049}, new int[] {1, 3, 10, 66, 792});
        dueLists("no triangle", joined(3, ALL, 3), new int[] {1, 2, 7, 41, 388, 5789}, new int[] {1, 2, 3, 7, 14, 38});
        dueLists("no ring of 3", joined(3, RING, 3), new int[] {1, 2, 7, 41, 388, 5789}, new int[] {1, 2, 3, 7, 14, 38});
        dueLists("no book of 1", joined(3, BOOK, 1), new int[] {1, 2, 7, 41, 388, 5789}, new int[] {1, 2, 3, 7, 14, 38});
        dueLists("no star of 2", joined(3, STAR, 2), new int[] {1, 2, 4, 10, 26, 76}, new int[] {1, 2, 2, 3, 3, 4});
        dueLists("no path of 3", joined(3, PATH, 3), new int[] {1, 2, 4, 10, 26, 76}, new int[] {1, 2, 2, 3, 3, 4});
        dueLists("no JOIN", joined(3, ALL, 2), new int[] {1, 1, 1, 1, 1, 1}, new int[] {1, 1, 1, 1, 1, 1});
        dueLists("no 4 all joined", joined(3, ALL, 4), new int[] {1, 2, 8, 63, 1024 - 66}, new int[] {1, 2, 4, 10, 34 - 5});
        dueLists("no book of 2", joined(3, BOOK, 2), new int[] {1, 2, 8, 64 - 7}, new int[] {1, 2, 4, 11 - 2});
        dueLists("no star of 3", joined(3, STAR, 3), new int[] {1, 2, 8, 64 - 23}, new int[] {1, 2, 4, 11 - 4});
        dueLists("no path of 4", joined(3, PATH, 4), new int[] {1, 2, 8, 64 - 34}, new int[] {1, 2, 4, 11 - 5});
        KeptColours x = joined(3, RING, 4);
        x.paint(0, 1, 1);
        int[] noSquare = {1, 2, 4, 8, 18, 44};
        for (int n = 1; n <= 6; n++) {
            int size = n;
            keeps(x, "no square: list(" + n + ", 1)", noSquare[n - 1], () -> x.list(size, 1));
        }
        for (int n = 7; n <= 12; n++) {
            int size = n;
            keeps(x, "list(" + n + ", 0)", LARGE, () -> x.list(size, 0));
        }
        keeps(x, "list(7, 2)", BAD, () -> x.list(7, 2));
        keeps(x, "list(3, -1)", BAD, () -> x.list(3, -1));
        keeps(x, "list(0, 0)", BAD, () -> x.list(0, 0));
        keeps(x, "list(13, 0)", BAD, () -> x.list(13, 0));
        keeps(x, "list(MIN, 0)", BAD, () -> x.list(MIN, 0));
        keeps(x, "list(MAX, MAX)", BAD, () -> x.list(MAX, MAX));
        due("list(6, 0) in 3 COLOURS", bench(1, 3).list(6, 0), LARGE);
        due("list(6, 1) in 3 COLOURS", bench(1, 3).list(6, 1), LARGE);
    }

    private static void dueLists(String of, KeptColours x, int[] lengths, int[] forms) {
        for (int n = 1; n <= lengths.length; n++) {
            due(of + ": list(" + n + ", 0)", x.list(n, 0), lengths[n - 1]);
            due(of + ": list(" + n + ", 1)", x.list(n, 1), forms[n - 1]);
        }
    }

    private static void listed() {
        KeptColours x = bench(6, 2);
        changes(x, "listed(3, 1)", 3, () -> x.listed(3, 1));
        dueColours("listed(3, 1)", x, "001");
        changes(x, "listed(4, 45)", 6, () -> x.listed(4, 45));
        dueColours("listed(4, 45)", x, "101101");
        changesToSame(x, "listed(4, 64)", NONE, () -> x.listed(4, 64));
        changesToSame(x, "listed(4, MAX)", NONE, () -> x.listed(4, MAX));
        keeps(x, "listed(4, -1)", BAD, () -> x.listed(4, -1));
        keeps(x, "listed(7, -1)", BAD, () -> x.listed(7, -1));
        keeps(x, "listed(7, 0)", LARGE, () -> x.listed(7, 0));
        keeps(x, "listed(12, 0)", LARGE, () -> x.listed(12, 0));
        keeps(x, "listed(0, 0)", BAD, () -> x.listed(0, 0));
        keeps(x, "listed(13, 0)", BAD, () -> x.listed(13, 0));
        changes(x, "listed(1, 0)", 0, () -> x.listed(1, 0));
        due("count(0)", x.count(0), 1);
        changesToSame(x, "listed(1, 1)", NONE, () -> x.listed(1, 1));
        due("listed(6, 32767)", x.listed(6, 32767), 15);
        dueColours("listed(6, 32767)", x, "111111111111111");
        x.target(0, ALL, 3);
        due("listed(3, 0)", x.listed(3, 0), 3);
        dueColours("no triangle: listed(3, 0)", x, "001");
        due("listed(3, 6)", x.listed(3, 6), 3);
        dueColours("no triangle: listed(3, 6)", x, "111");
        changesToSame(x, "listed(3, 7)", NONE, () -> x.listed(3, 7));
        KeptColours y = bench(2, 3);
        due("listed(5, 59048)", y.listed(5, 59048), 10);
        dueColours("listed(5, 59048)", y, "2222222222");
        keeps(y, "listed(6, 0)", LARGE, () -> y.listed(6, 0));
        KeptColours z = proved();
        changesToSame(z, "listed(4, 0) of none, with a PROOF", NONE, () -> z.listed(4, 0));
        KeptColours w = proved();
        changes(w, "listed(2, 0), with a PROOF", 1, () -> w.listed(2, 0));
    }

    private static void form() {
        dueForm("one JOIN of three", bench(3, 2, "100"), "001");
        dueForm("one JOIN of three", bench(3, 2, "010"), "001");
        dueForm("BARE is the least", bench(3, 2, "0--"), "--0");
        dueForm("a path", bench(4, 2, "1" + "01" + "001"), "0" + "01" + "101");
        dueForm("a ring of five", bench(5, 2, "1" + "01" + "001" + "1001"), "0" + "01" + "101" + "1100");
        dueForm("three COLOURS", bench(3, 3, "210"), "012");
        dueForm("seven POINTS, all but one JOIN", bench(7, 2, "011111111111111111111"), "011111111111111111111");
        dueForm("seven POINTS, one JOIN", bench(7, 2, "100000000000000000000"), "000000000000000000001");
        KeptColours x = bench(8, 2);
        keeps(x, "form(0)", LARGE, () -> x.form(0));
        keeps(x, "form(27)", LARGE, () -> x.form(27));
        keeps(x, "form(28)", BAD, () -> x.form(28));
        keeps(x, "form(-1)", BAD, () -> x.form(-1));
        KeptColours y = bench(4, 2);
        keeps(y, "form(6)", BAD, () -> y.form(6));
        keeps(y, "form(MIN)", BAD, () -> y.form(MIN));
        keeps(y, "form(MAX)", BAD, () -> y.form(MAX));
        due("form(0) of one POINT", bench(1, 2).form(0), BAD);
    }

    private static void same() {
        int[] factorial = {1, 2, 6, 24, 120, 720, 5040};
        for (int n = 1; n <= 7; n++) {
            KeptColours x = bench(n, 2);
            due("same() of " + n + ", all BARE", x.same(), factorial[n - 1]);
            x.turned(0);
            keeps(x, "same() of " + n + ", all of one COLOUR", factorial[n - 1], x::same);
        }
        due("a path", bench(4, 2, "101001").same(), 2);
        due("a ring of five", bench(5, 2, "1" + "01" + "001" + "1001").same(), 10);
        due("a ring of five, else BARE", bench(5, 2, "1" + "-1" + "--1" + "1--1").same(), 10);
        due("a star of three", bench(4, 2, "110100").same(), 6);
        due("three COLOURS", bench(3, 3, "012").same(), 1);
        KeptColours x = bench(8, 2);
        keeps(x, "same() of 8 POINTS", LARGE, x::same);
    }

    private static void puts() {
        for (int n = 1; n <= 11; n++) {
            KeptColours x = bench(n, 2);
            x.turned(0);
            keeps(x, "puts() on " + n, 1 << n, x::puts);
        }
        KeptColours x = bench(10, 3);
        keeps(x, "puts() on 10 BARE ones", NO, x::puts);
        x.turned(0);
        due("puts() on 10 in 3 COLOURS", x.puts(), 59049);
        x.net(11, 3);
        keeps(x, "puts() on 11 in 3 COLOURS, BARE", LARGE, x::puts);
        x.net(12, 3);
        keeps(x, "puts() on 12", FULL, x::puts);
        KeptColours y = Called.bench(noTriangles(2, 2));
        y.turned(0);
        due("puts() on a JOIN", y.puts(), 3);
        y.net(3, 2);
        y.turned(0);
        keeps(y, "puts() on a triangle", NO, y::puts);
        y.listed(5, 0);
        due("puts() on 5 without triangles", y.puts(), 0);
        y.net(1, 2);
        due("puts() on one POINT", y.puts(), 2);
    }

    private static void put() {
        KeptColours x = bench(3, 2, "101");
        changes(x, "put(1)", 4, () -> x.put(1));
        dueColours("put(1)", x, "101" + "001");
        changes(x, "put(12)", 5, () -> x.put(12));
        dueColours("put(12)", x, "101" + "001" + "1100");
        changesToSame(x, "put(32)", NONE, () -> x.put(32));
        changesToSame(x, "put(MAX)", NONE, () -> x.put(MAX));
        keeps(x, "put(-1)", BAD, () -> x.put(-1));
        keeps(x, "put(MIN)", BAD, () -> x.put(MIN));
        x.paint(0, 1, -1);
        keeps(x, "put(-1), not WHOLE", NO, () -> x.put(-1));
        x.net(11, 3);
        keeps(x, "put(-1) on 11 in 3 COLOURS", LARGE, () -> x.put(-1));
        x.net(12, 3);
        keeps(x, "put(-1) on 12", FULL, () -> x.put(-1));
        KeptColours y = Called.bench(noTriangles(2, 2));
        y.turned(0);
        due("put(2) on a JOIN", y.put(2), 3);
        dueColours("put(2)", y, "0" + "11");
        due("put(0)", y.put(0), 4);
        dueColours("put(0)", y, "0" + "11" + "010");
        y.paint(0, 1, 1);
        keeps(y, "put(0), not CLEAR", NO, () -> y.put(0));
        KeptColours z = bench(10, 3);
        z.turned(242);
        due("put(59048)", z.put(59048), 11);
        due("colour(9, 10)", z.colour(9, 10), 2);
        KeptColours w = bench(1, 2);
        due("put(1) on one POINT", w.put(1), 2);
        dueColours("put(1)", w, "1");
    }

    private static void drop() {
        KeptColours x = bench(4, 2, "101001");
        changes(x, "drop()", 3, x::drop);
        dueColours("drop()", x, "101");
        due("drop()", x.drop(), 2);
        due("drop()", x.drop(), 1);
        keeps(x, "drop() of the last one", NO, x::drop);
        due("put(0) behind it", x.put(0), 2);
        dueColours("put(0)", x, "0");
        KeptColours twelve = bench(12, 2);
        twelve.turned(63);
        changes(twelve, "drop() of 12", 11, twelve::drop);
        due("count(2)", twelve.count(2), 0);
        KeptColours y = joined(4, STAR, 3, 0, 1, 0, 2, 0, 3);
        due("copies(0)", y.copies(0), 1);
        due("drop()", y.drop(), 3);
        due("copies(0) then", y.copies(0), 0);
        due("count(2) then", y.count(2), 1);
    }

    private static void fill() {
        KeptColours x = joined(3, ALL, 3);
        keeps(x, "fill(3)", SPENT, () -> x.fill(3));
        changes(x, "fill(4)", 1, () -> x.fill(4));
        dueColours("fill(4)", x, "001");
        changes(x, "fill(1) of what is full", 1, () -> x.fill(1));
        due("tries()", x.tries(), 0);
        for (int most : new int[] {0, -1, 20001, MIN, MAX}) {
            keeps(x, "fill(" + most + ")", BAD, () -> x.fill(most));
        }
        due("fill(20000)", x.fill(20000), 1);
        KeptColours y = bench(4, 2, "-1-0--");
        y.target(1, STAR, 2);
        due("fill(20)", y.fill(20), 1);
        dueColours("fill(20), what had COLOURS stays", y, "010000");
        KeptColours z = Called.bench(noTriangles(6, 2));
        keeps(z, "fill(649)", SPENT, () -> z.fill(649));
        int kept = z.count(4);
        due("fill(650)", z.fill(650), 0);
        due("count(4)", z.count(4), kept);
        dueColours("fill(650)", z, "---------------");
        KeptColours w = joined(3, ALL, 2, 0, 1);
        kept = w.count(4);
        due("fill(9) with a COPY", w.fill(9), 0);
        due("tries()", w.tries(), 0);
        due("count(4)", w.count(4), kept);
        KeptColours full = full(3, ALL, 3);
        due("fill(9), WHOLE but not CLEAR", full.fill(9), 0);
        KeptColours v = Called.bench(noTriangles(3, 3));
        due("fill(9) in 3 COLOURS", v.fill(9), 1);
        KeptColours one = bench(1, 2);
        changes(one, "fill(1) of one POINT", 1, () -> one.fill(1));
        KeptColours proved = proved();
        due("fill(10) of none", proved.fill(10), 0);
        due("count(5): no CHANGE, so the PROOF stays", proved.count(5), 10);
    }

    private static void tries() {
        KeptColours x = joined(3, ALL, 3);
        due("tries() ahead of any", x.tries(), 0);
        x.fill(4);
        keeps(x, "tries()", 4, x::tries);
        x.net(6, 2);
        due("fill(1)", x.fill(1), SPENT);
        due("fill(0)", x.fill(0), BAD);
        due("tries() behind what was refused", x.tries(), 4);
        x.undo();
        due("tries() behind undo()", x.tries(), 4);
        KeptColours y = proved();
        due("tries() behind prove()", y.tries(), 0);
        due("fill(10)", y.fill(10), 0);
        due("tries() of none", y.tries(), 10);
        y.paint(0, 1, 0);
        y.paint(0, 2, 0);
        due("fill(10) with a COPY", y.fill(10), 0);
        due("tries() then", y.tries(), 0);
    }

    private static void prove() {
        KeptColours x = bench(3, 2);
        x.target(0, PATH, 2);
        x.target(1, PATH, 2);
        int kept = x.count(4);
        due("prove()", x.prove(), 2);
        due("count(5)", x.count(5), 2);
        due("count(4)", x.count(4), kept);
        x.forge(0, 5);
        due("prove() once more", x.prove(), 2);
        due("row(0, 2) anew", x.row(0, 2), 3);
        KeptColours y = Called.bench(noTriangles(5, 2));
        keeps(y, "prove() of what can be filled", NO, y::prove);
        y.turned(1);
        keeps(y, "prove() of what is full", NO, y::prove);
        y.turned(0);
        keeps(y, "prove() with COPIES", NO, y::prove);
        y.net(6, 2);
        keeps(y, "prove() of 650 TRIES", FULL, y::prove);
        KeptColours z = joined(4, ALL, 2, 1, 2);
        keeps(z, "prove() with a COPY", NO, z::prove);
        KeptColours one = bench(1, 2);
        keeps(one, "prove() of one POINT", NO, one::prove);
        due("no TARGETS", bench(5, 3).prove(), NO);
        dueAt500();
    }

    /** FILLINGS that end with just 500 or 501 TRIES. */
    private static void dueAt500() {
        KeptColours a = bench(6, 2);
        a.target(0, RING, 4);
        a.target(1, RING, 4);
        a.paint(3, 4, 1);
        a.paint(0, 2, 1);
        due("none with 500", a.prove(), 500);
        due("row(499, 0)", a.row(499, 0) >= 0 ? 0 : 1, 0);
        due("row(500, 0)", a.row(500, 0), BAD);
        due("check()", a.check(), 0);
        KeptColours b = bench(7, 3);
        b.target(0, STAR, 5);
        b.target(1, STAR, 2);
        b.target(2, STAR, 1);
        b.paint(4, 1, 0);
        due("none with 501", b.prove(), FULL);
        due("fill(501)", b.fill(501), 0);
        KeptColours c = bench(7, 2);
        c.target(0, STAR, 5);
        c.target(1, PATH, 5);
        c.paint(3, 6, 1);
        due("found with 500", c.prove(), NO);
        due("fill(499)", c.fill(499), SPENT);
        due("fill(500)", c.fill(500), 1);
        KeptColours d = bench(7, 2);
        d.target(0, STAR, 5);
        d.target(1, RING, 4);
        d.paint(2, 5, 0);
        due("found with 501", d.prove(), FULL);
        due("fill(501)", d.fill(501), 1);
    }

    private static void row() {
        KeptColours x = proved();
        // 01: 0 | 02: 0 copy 012, 1 | 12: 0 copy, 1 copy | 01: 1 .. the same with the COLOURS changed.
        int[][] rows = {
            {0, 0, 0}, {1, 0, 7}, {1, 1, 0}, {2, 0, 7}, {2, 1, 7},
            {0, 1, 0}, {1, 0, 0}, {2, 0, 7}, {2, 1, 7}, {1, 1, 7}};
        for (int i = 0; i < rows.length; i++) {
            for (int what = 0; what < 3; what++) {
                int index = i;
                int asks = what;
                keeps(x, "row(" + i + ", " + what + ")", rows[i][what], () -> x.row(index, asks));
            }
        }
        int[][] bad = {{10, 0}, {-1, 0}, {0, 3}, {0, -1}, {500, 0}, {MAX, 0}, {MIN, 2}, {0, MAX}};
        for (int[] b : bad) {
            keeps(x, "row(" + b[0] + ", " + b[1] + ")", BAD, () -> x.row(b[0], b[1]));
        }
        KeptColours y = middleJoin();
        due("row(0, 0)", y.row(0, 0), 1);
        due("row(0, 2)", y.row(0, 2), 15);
        due("row(1, 2)", y.row(1, 2), 5);
        x.undo();
        keeps(x, "row(0, 0) without a PROOF", NO, () -> x.row(0, 0));
        keeps(x, "row(-1, 9) without a PROOF", NO, () -> x.row(-1, 9));
    }

    private static void forge() {
        KeptColours x = proved();
        int kept = x.count(4);
        due("forge(1, 4095)", x.forge(1, 4095), 7);
        due("row(1, 2)", x.row(1, 2), 4095);
        due("forge(1, 0)", x.forge(1, 0), 4095);
        due("forge(9, 8)", x.forge(9, 8), 7);
        due("row(1, 2)", x.row(1, 2), 0);
        due("count(4): it is no CHANGE", x.count(4), kept);
        due("count(5)", x.count(5), 10);
        int[][] bad = {{10, 0}, {-1, 0}, {0, -1}, {0, 4096}, {MAX, 0}, {MIN, 0}, {0, MAX}, {0, MIN}};
        for (int[] b : bad) {
            keeps(x, "forge(" + b[0] + ", " + b[1] + ")", BAD, () -> x.forge(b[0], b[1]));
        }
        x.net(3, 2);
        keeps(x, "forge(-1, -1) without a PROOF", NO, () -> x.forge(-1, -1));
    }

    private static void check() {
        KeptColours x = proved();
        keeps(x, "check()", 0, x::check);
        dueForged("a COPY's POINTS, but it is none", 0, 7, 1);
        dueForged("too few POINTS", 1, 3, 2);
        dueForged("too many POINTS", 1, 15, 2);
        dueForged("POINTS that are not there", 1, 2048 + 3, 2);
        dueForged("other POINTS, no COPY", 4, 14, 5);
        dueForged("goes on, and the next row does not", 1, 0, 3);
        dueForged("goes on behind the last row: it ends too soon", 9, 0, 11);
        dueForged("the first row", 5, 1, 6);
        dueOtherCopy();
        dueMiddleJoin();
        dueLastJoin();
        x.paint(2, 3, 0);
        keeps(x, "check() behind a CHANGE", NO, x::check);
        x.undo();
        keeps(x, "check() behind undo()", NO, x::check);
    }

    private static void dueForged(String of, int i, int points, int want) {
        KeptColours x = proved();
        int before = x.forge(i, points);
        keeps(x, of + ": check()", want, x::check);
        x.forge(i, before);
        due(of + ", mended: check()", x.check(), 0);
    }

    /** Another COPY than the first one, with the JOIN in it, is as good. */
    private static void dueOtherCopy() {
        KeptColours x = bench(4, 2, "-" + "00" + "00-");
        x.target(0, ALL, 3);
        x.target(1, ALL, 2);
        due("prove()", x.prove(), 2);
        due("row(0, 2)", x.row(0, 2), 7);
        x.forge(0, 11);
        due("another COPY: check()", x.check(), 0);
        x.forge(0, 14);
        due("no COPY: check()", x.check(), 1);
        x.forge(0, 7);
        x.forge(1, 5);
        due("not the JOIN's POINTS: check()", x.check(), 2);
    }

    private static void dueMiddleJoin() {
        KeptColours x = middleJoin();
        due("the JOIN is amid the COPY: check()", x.check(), 0);
        x.forge(0, 7);
        due("one POINT is missing: check()", x.check(), 1);
        x.forge(0, 15);
        x.forge(1, 15);
        due("the other COLOUR's COPY: check()", x.check(), 2);
    }

    /** A row with 0 at the last JOIN that is BARE has nothing to go on with. */
    private static void dueLastJoin() {
        KeptColours x = bench(3, 2, "00-");
        x.target(0, ALL, 3);
        x.target(1, ALL, 2);
        due("prove()", x.prove(), 2);
        x.forge(0, 0);
        due("nothing is BARE still: check()", x.check(), 1);
        x.forge(0, 7);
        x.forge(1, 0);
        due("nothing is BARE still, last row: check()", x.check(), 2);
    }

    private static void step() {
        KeptColours x = full(3, ALL, 3);
        changes(x, "step(5)", 1, () -> x.step(5));
        dueColours("the least JOIN", x, "100");
        changes(x, "step(1) of none, not refused", 0, () -> x.step(1));
        KeptColours y = bench(3, 3, "000");
        y.target(0, ALL, 3);
        due("step(1) in 3 COLOURS", y.step(1), 1);
        dueColours("the least COLOUR", y, "100");
        y.target(1, ALL, 2);
        due("step(1)", y.step(1), 1);
        dueColours("COLOUR 0 has its COPY again, so 2", y, "200");
        // Each JOIN of 4 all joined is in two of the four triangles; of two triangles with one JOIN shared, that one.
        KeptColours z = full(4, ALL, 3);
        due("step(1)", z.step(1), 1);
        due("count(3)", z.count(3), 2);
        due("step(30)", z.step(30), 1);
        dueColours("two steps", z, "100001");
        due("count(3)", z.count(3), 0);
        KeptColours shared = bench(4, 2, "1" + "00" + "000");
        shared.target(0, ALL, 3);
        due("step(1)", shared.step(1), 1);
        dueColours("the one by which they are least", shared, "100001");
        KeptColours bare = bench(3, 2, "00-");
        keeps(bare, "step(1), not WHOLE", NO, () -> bare.step(1));
        for (int n : new int[] {0, -1, 31, MIN, MAX}) {
            keeps(bare, "step(" + n + ")", BAD, () -> bare.step(n));
        }
        KeptColours twelve = full(12, ALL, 2);
        due("step(30)", twelve.step(30), 30);
        due("count(3)", twelve.count(3), 36);
        due("step(30)", twelve.step(30), 30);
        due("step(30)", twelve.step(30), 6);
        due("one POINT", bench(1, 2).step(1), 0);
    }

    private static void undo() {
        KeptColours x = new KeptColours();
        keeps(x, "undo() of none", NO, x::undo);
        x.target(0, ALL, 3);
        x.paint(0, 1, 1);
        x.net(3, 3);
        due("undo() of net", x.undo(), 2);
        due("count(0)", x.count(0), 6);
        due("count(1)", x.count(1), 2);
        due("colour(0, 1)", x.colour(0, 1), 1);
        due("undo() of paint", x.undo(), 1);
        due("colour(0, 1)", x.colour(0, 1), -1);
        due("undo() of target", x.undo(), 0);
        due("aim(0, 0)", x.aim(0, 0), 0);
        due("undo()", x.undo(), NO);
        for (int n = 1; n <= 9; n++) {
            x.net(n, 2);
        }
        for (int left = 5; left >= 0; left--) {
            due("undo()", x.undo(), left);
            due("count(0)", x.count(0), left + 3);
        }
        keeps(x, "undo() behind the six", NO, x::undo);
        x.net(5, 3);
        x.target(2, RING, 5);
        x.net(5, 2);
        x.undo();
        due("COLOUR 2's TARGET is back", x.aim(2, 1), 5);
        KeptColours y = proved();
        due("count(5)", y.count(5), 10);
        y.undo();
        due("count(5) behind undo()", y.count(5), 0);
        KeptColours z = proved();
        for (int i = 0; i < 9; i++) {
            z.undo();
        }
        z.prove();
        keeps(z, "undo() of none", NO, z::undo);
    }

    private static void count() {
        KeptColours x = bench(4, 3, "00-0-2");
        x.target(0, STAR, 1);
        x.target(2, PATH, 2);
        keeps(x, "count(0)", 4, () -> x.count(0));
        keeps(x, "count(1)", 3, () -> x.count(1));
        keeps(x, "count(2)", 2, () -> x.count(2));
        keeps(x, "count(3)", 7, () -> x.count(3));
        keeps(x, "count(4)", 6, () -> x.count(4));
        keeps(x, "count(5)", 0, () -> x.count(5));
        due("count(5) with a PROOF", proved().count(5), 10);
        for (int what : new int[] {-1, 6, MIN, MAX}) {
            keeps(x, "count(" + what + ")", BAD, () -> x.count(what));
        }
        int[] given = {KeptColours.BAD, KeptColours.NO, KeptColours.FULL, KeptColours.LARGE, KeptColours.SPENT, KeptColours.NONE};
        int[] told = {BAD, NO, FULL, LARGE, SPENT, NONE};
        for (int i = 0; i < told.length; i++) {
            due("constant " + i, given[i], told[i]);
        }
    }
}
