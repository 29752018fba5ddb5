import java.util.ArrayList;
import java.util.List;

/**
 * Every call, on benches at the edges, with every mix of values at the edges, held against PlainColours:
 * the answer, all that can be seen behind it, and what undo() then takes back. What is refused, or only
 * asked, must moreover leave all as it was.
 */
public final class SweptEdgesTest {
    private static final int MIN = Integer.MIN_VALUE, MAX = Integer.MAX_VALUE;
    private static final int MOST_KEPT = 6;
    private static final int BAD = -1000000001, NONE = -1000000005, SPENT = -1000000006;

    private static final String[] BENCHES = {
        "",
        "net(1, 2)",
        "net(1, 3); target(2, 1, 2)",
        "net(2, 2); target(0, 1, 2); target(1, 5, 2); prove()",
        "net(2, 3); paint(0, 1, 2); target(2, 3, 1)",
        "net(3, 2); target(0, 2, 3); turned(0)",
        "net(3, 2); target(0, 2, 3); turned(1); step(1)",
        "net(4, 2); target(0, 5, 3); target(1, 5, 3); prove()",
        "net(4, 2); target(0, 5, 3); target(1, 5, 3); fill(10); prove(); forge(9, 0); forge(1, 3)",
        "target(0, 1, 4); fill(21); net(4, 3); net(4, 2); paint(0, 1, 1); paint(0, 1, 0); target(0, 5, 3); target(1, 5, 3); prove()",
        "net(5, 2); target(0, 1, 3); target(1, 1, 3); turned(1)",
        "net(6, 2); target(0, 1, 3); target(1, 1, 3); fill(650)",
        "net(7, 3); paint(0, 6, 2); target(0, 4, 4)",
        "net(8, 2); target(0, 3, 6); turned(3)",
        "net(11, 2); target(0, 1, 3); target(1, 1, 6)",
        "net(11, 3); turned(242)",
        "net(12, 2); turned(0)",
        "net(12, 3); net(12, 2); net(12, 3); net(12, 2); net(12, 3); paint(10, 11, 2); target(2, 1, 2)"};

    /** For each call the values that each place is given. */
    private static final Object[][] CALLS = {
        {"net", new int[] {MIN, -1, 0, 1, 2, 12, 13, MAX}, new int[] {MIN, -1, 0, 1, 2, 3, 4, MAX}},
        {"target", new int[] {MIN, -1, 0, 1, 2, 3, MAX}, new int[] {MIN, -1, 0, 1, 2, 3, 4, 5, 6, 7, MAX}, new int[] {MIN, -1, 0, 1, 2, 3, 4, 5, 6, 7, MAX}},
        {"paint", new int[] {MIN, -1, 0, 1, 3, 6, 11, 12, MAX}, new int[] {MIN, -1, 0, 1, 3, 6, 11, 12, MAX}, new int[] {MIN, -2, -1, 0, 1, 2, 3, MAX}},
        {"colour", new int[] {MIN, -1, 0, 1, 2, 3, 4, 5, 6, 10, 11, 12, MAX}, new int[] {MIN, -1, 0, 1, 2, 3, 4, 5, 6, 10, 11, 12, MAX}},
        {"aim", new int[] {MIN, -1, 0, 1, 2, 3, MAX}, new int[] {MIN, -1, 0, 1, 2, MAX}},
        {"isOf", new int[] {MIN, -1, 0, 1, 2, 3, MAX}, new int[] {MIN, -1, 0, 1, 2, 3, 4, 5, 6, 7, MAX}},
        {"clear"},
        {"copies", new int[] {MIN, -1, 0, 1, 2, 3, MAX}},
        {"copy", new int[] {MIN, -1, 0, 1, 2, 3, MAX}, new int[] {MIN, -1, 0, 1, 2, 3, 6, 7, MAX}},
        {"degree", new int[] {MIN, -1, 0, 1, 2, 3, 6, 7, 11, 12, MAX}, new int[] {MIN, -2, -1, 0, 1, 2, 3, MAX}},
        {"triangles"},
        {"least", new int[] {MIN, -1, 0, 1, 2, 3, 4, 5, 6, 7, 8, 9, 10, 11, 12, 13, MAX}},
        {"turned", new int[] {MIN, -1, 0, 1, 2, 3, 4, 7, 8, 9, 26, 27, 31, 32, 63, 64, 242, 243, 728, 729, MAX}},
        {"turns", new int[] {MIN, -1, 0, 1, 2, 3, MAX}},
        {"list", new int[] {MIN, -1, 0, 1, 2, 3, 4, 7, 12, 13, MAX}, new int[] {MIN, -1, 0, 1, 2, MAX}},
        {"listed", new int[] {MIN, -1, 0, 1, 2, 3, 4, 7, 12, 13, MAX}, new int[] {MIN, -1, 0, 1, 2, 7, 8, 63, 64, MAX}},
        {"form", new int[] {MIN, -1, 0, 1, 2, 3, 6, 14, 15, 20, 21, 27, 28, 65, 66, MAX}},
        {"same"},
        {"puts"},
        {"put", new int[] {MIN, -1, 0, 1, 2, 3, 31, 32, 255, 256, MAX}},
        {"drop"},
        {"fill", new int[] {MIN, -1, 0, 1, 2, 4, 10, 15, 649, 650, 20000, 20001, MAX}},
        {"tries"},
        {"prove"},
        {"row", new int[] {MIN, -1, 0, 1, 3, 4, 9, 10, 500, MAX}, new int[] {MIN, -1, 0, 1, 2, 3, MAX}},
        {"forge", new int[] {MIN, -1, 0, 1, 3, 4, 9, 10, 500, MAX}, new int[] {MIN, -1, 0, 3, 7, 4095, 4096, MAX}},
        {"check"},
        {"step", new int[] {MIN, -1, 0, 1, 2, 30, 31, MAX}},
        {"undo"},
        {"count", new int[] {MIN, -1, 0, 1, 2, 3, 4, 5, 6, MAX}}};

    /** All others only ask. */
    private static final List<String> DOING = List.of(
        "net", "target", "paint", "turned", "listed", "put", "drop", "fill", "prove", "forge", "step", "undo");

    private static int swept;
    private static int wrong;

    public static void main(String[] args) {
        for (String calls : BENCHES) {
            for (Object[] call : CALLS) {
                sweep(calls, call, 1, new ArrayList<>());
            }
        }
        System.out.println(wrong == 0 ? swept + " calls at the edges are as due" : wrong + " are not as due");
        if (wrong != 0) {
            System.exit(1);
        }
    }

    private static void sweep(String calls, Object[] call, int place, List<Integer> chosen) {
        if (place == call.length) {
            hold(calls, (String) call[0], chosen.stream().mapToInt(Integer::intValue).toArray());
            return;
        }
        for (int value : (int[]) call[place]) {
            chosen.add(value);
            sweep(calls, call, place + 1, chosen);
            chosen.remove(chosen.size() - 1);
        }
    }

    private static void hold(String calls, String name, int[] values) {
        swept++;
        KeptColours x = Called.with(new KeptColours(), calls);
        PlainColours plain = Called.with(new PlainColours(), calls);
        String before = seen(plain);
        int got = Called.named(x, name, values);
        int due = Called.named(plain, name, values);
        String told = calls + "; " + Called.text(name, values);
        if (got != due) {
            fault(told + " answered " + got + ", due is " + due);
        }
        boolean refused = due <= BAD && due >= SPENT && due != NONE;
        if ((refused || !DOING.contains(name)) && !seen(plain).equals(before)) {
            fault(told + ": PlainColours is not as it was");
        }
        dueSame(told, seen(x), seen(plain));
        for (int back = 1; back <= MOST_KEPT + 1; back++) {
            if (x.undo() != plain.undo()) {
                fault(told + ", undo() " + back + " answered otherwise");
            }
            dueSame(told + ", undo() " + back, seen(x), seen(plain));
        }
    }

    private static void dueSame(String told, String left, String due) {
        if (!left.equals(due)) {
            fault(told + " left " + left + ", due is " + due);
        }
    }

    private static void fault(String told) {
        wrong++;
        System.out.println(told);
    }

    /** The same reading of both, though they are of no common kind. */
    private static String seen(Object on) {
        StringBuilder told = new StringBuilder();
        for (int what : new int[] {0, 1, 2, 4, 5}) {
            told.append(Called.named(on, "count", what)).append(' ');
        }
        told.append(Called.named(on, "tries")).append(' ');
        for (int c = 0; c < 3; c++) {
            told.append(Called.named(on, "aim", c, 0)).append(':').append(Called.named(on, "aim", c, 1)).append(' ');
        }
        int n = Called.named(on, "count", 0);
        for (int j = 1; j < n; j++) {
            for (int i = 0; i < j; i++) {
                told.append(Called.named(on, "colour", i, j)).append(' ');
            }
        }
        int rows = Called.named(on, "count", 5);
        for (int i = 0; i < rows; i++) {
            told.append(Called.named(on, "row", i, 2)).append(' ');
        }
        return told.toString();
    }
}
