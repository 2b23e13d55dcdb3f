import java.util.HashMap;
import java.util.Map;

/** Promises 46 to 49: a game on a ring, laws, bargains, years. */
public final class GamesTest {
    private static final Map<String, Boolean> KNOWN = new HashMap<>();

    /** By going through all plays of a ring of which beads (1) are still there: does the one whose turn it is win? */
    private static boolean wins(String ring) {
        Boolean known = KNOWN.get(ring);
        if (known != null) {
            return known;
        }
        boolean wins = false;
        int n = ring.length();
        for (int i = 0; i < n && !wins; i++) {
            int behind = (i + 1) % n;
            if (ring.charAt(i) == '1') {
                String one = without(ring, i);
                wins = !wins(one) || behind != i && ring.charAt(behind) == '1' && !wins(without(one, behind));
            }
        }
        KNOWN.put(ring, wins);
        return wins;
    }

    private static String without(String ring, int i) {
        return ring.substring(0, i) + "0" + ring.substring(i + 1);
    }

    private static void ring() {
        BeadRings x = new BeadRings();
        PlainRings y = new PlainRings();
        for (int n = 0; n <= 14; n++) {
            Due.due("ring(" + n + ") by all plays", wins("1".repeat(n)), x.ring(n) == 1);
        }
        for (int n = 0; n <= 40; n++) {
            Due.due("ring(" + n + ")", y.ring(n), x.ring(n));
            Due.due("ring(" + n + ") row", y.count(8), x.count(8));
        }
        Due.due("ring(1)", 1, x.ring(1));
        Due.row("ring(1)", x, 1);
        Due.due("ring(2)", 1, x.ring(2));
        Due.row("ring(2)", x, 2);
        Due.due("others", -1, x.ring(-1));
        Due.due("others", -1, x.ring(41));
        Due.row("the row stays", x, 2);
        Due.due("ring(0)", 0, x.ring(0));
        Due.row("ring(0)", x);
    }

    private static void law() {
        BeadRings x = Due.stall("abca", "abab", "d");
        Due.due("another", 9 - 21, Due.law(x, "n"));
        Due.row("another", x, 9, 21);
        Due.due("more", 3 * 99 - 21, Due.law(x, "999"));
        Due.row("more", x, 297, 21);
        Due.due("none", 0, Due.law(x, ""));
        Due.row("none", x, 21, 21);
        Due.due("THE RULE stays", 21, x.count(4));
        Due.due("a fault at first", -10000, Due.law(x, "?"));
        Due.due("a fault", -10002, Due.law(x, "n+"));
        Due.due("too long", -10040, Due.law(x, "n+".repeat(20) + "n"));
        Due.due("the text is empty", 0, x.count(9));
        Due.row("the row stays", x, 21, 21);
        Due.rule(x, "n");
        Due.due("THE RULE behind a fault", 9, x.count(4));
        Due.due("none is n+c*2", 12, Due.law(x, ""));
        Due.row("none is n+c*2", x, 21, 9);
        Due.due("no bracelets", 0, Due.law(new BeadRings(), "n"));
    }

    private static void bargains() {
        BeadRings x = new BeadRings();
        PlainRings y = new PlainRings();
        for (int v = 0; v <= 18; v++) {
            Due.due("bargains(" + v + ")", y.bargains(v), x.bargains(v));
            Due.row("bargains(" + v + ")", x, y.row(0), y.row(1));
        }
        // 9 and 9; and 8 and 8, as each has 9 then, and half of the 1 that 9 and 8 leave is cut.
        Due.due("bargains(18)", 2, x.bargains(18));
        Due.row("bargains(18)", x, 8, 8);
        Due.due("others", -1, x.bargains(-1));
        Due.due("others", -1, x.bargains(19));
        Due.row("the row stays", x, 8, 8);
    }

    private static void years(BeadRings x, int[][] want) {
        for (int[] one : want) {
            Due.due("years(" + one[0] + ", " + one[1] + ")", one[2], x.years(one[0], one[1]));
            Due.row("years(" + one[0] + ", " + one[1] + ")", x, one[3], one[4]);
        }
    }

    private static void yearsOfOneAndOfFive() {
        int[][] ofOne = {{5, 60, 3, 1, 45}, {-1, 7, 5, 1, 43}, {99, 31, 3, 1, 45}, {2026, 60, 8, 1, 40}, {3, 12, 2, 1, 46}};
        years(Due.stall("abca"), ofOne);
        int[][] ofFive = {
            {5, 60, 10, 4, 38}, {-1, 37, 11, 4, 37}, {99, 31, 10, 5, 38}, {2026, 60, 15, 5, 33}, {31415, 45, 11, 4, 37}, {8, 58, 18, 5, 30}};
        years(Due.stall("ab", "ba", "abab", "a", "b"), ofFive);
    }

    private static void years() {
        BeadRings x = Due.stall("abca", "d");
        Due.due("others", -1, x.years(1, 0));
        Due.due("others", -1, x.years(1, 61));
        Due.due("others", -1, x.years(1, -5));
        Due.strings(x, "abab");
        // Worked out apart from the class: seed, years, beads of all, kinds, stock of all.
        int[][] want = {
            {0, 1, 9, 3, 39}, {1, 5, 11, 3, 37}, {-7, 20, 10, 3, 38}, {123456789, 60, 10, 3, 38},
            {2147483647, 33, 11, 3, 37}, {42, 60, 15, 3, 33}};
        years(x, want);
        Due.beads("years change nothing", x, "abca", "d", "abab");
        for (int seed = -50; seed < 50; seed++) {
            int beads = x.years(seed, 60);
            Due.due("beads and stock", 48, beads + x.row(1));
            Due.due("as it was", 9, x.count(1));
        }
        Due.due("nothing more to undo", 3, x.count(7));
        BeadRings y = new BeadRings();
        Due.due("without bracelets", 0, y.years(7, 60));
        Due.row("without bracelets", y, 0, 48);
    }

    public static void main(String[] args) {
        ring();
        law();
        bargains();
        years();
        yearsOfOneAndOfFive();
        Due.end("GamesTest");
    }
}
