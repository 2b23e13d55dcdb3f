import java.util.BitSet;

/** Promises 29 to 37: kinds, and what can be strung. */
public final class KindsTest {
    private static int power(int k, int n) {
        return n == 0 ? 1 : k * power(k, n - 1);
    }

    private static int digit(int row, int k, int place) {
        return row / power(k, place) % k;
    }

    private static int rolled(int row, int n, int k) {
        return row / k + row % k * power(k, n - 1);
    }

    private static int flipped(int row, int n, int k) {
        int flipped = 0;
        for (int i = 0; i < n; i++) {
            flipped = flipped * k + digit(row, k, i);
        }
        return flipped;
    }

    /** Ticks off whole kinds, one by one, among all rows: no formula. */
    private static int[] listedMany(int n, int k) {
        BitSet byRolls = new BitSet();
        BitSet byFlips = new BitSet();
        int[] number = new int[3];
        for (int row = 0; row < power(k, n); row++) {
            if (!byRolls.get(row)) {
                number[1]++;
                int size = 0;
                for (int at = row; !byRolls.get(at); at = rolled(at, n, k)) {
                    byRolls.set(at);
                    size++;
                }
                number[2] += size == n ? 1 : 0;
            }
            if (!byFlips.get(row)) {
                number[0]++;
                int flipped = flipped(row, n, k);
                for (int at = row; !byFlips.get(at); at = rolled(at, n, k)) {
                    byFlips.set(at);
                }
                for (int at = flipped; !byFlips.get(at); at = rolled(at, n, k)) {
                    byFlips.set(at);
                }
            }
        }
        return number;
    }

    private static void many() {
        BeadRings x = new BeadRings();
        for (int n = 1; n <= 10; n++) {
            for (int k = 1; k <= 4; k++) {
                int[] want = listedMany(n, k);
                Due.due("many(" + n + ", " + k + ")", want[0], x.many(n, k));
                Due.row("many(" + n + ", " + k + ")", x, want[1], want[2]);
            }
        }
        x.many(6, 2);
        int[][] others = {{0, 1}, {11, 1}, {1, 0}, {1, 5}, {-1, 2}, {2, -1}, {Integer.MIN_VALUE, Integer.MIN_VALUE}};
        for (int[] other : others) {
            Due.due("many of others", -1, x.many(other[0], other[1]));
        }
        Due.row("the row stays", x, 14, 9);
    }

    private static void ways() {
        BeadRings x = new BeadRings();
        PlainRings y = new PlainRings();
        String[] texts = {
            "a", "aa", "ab", "abc", "aabb", "abab", "abcd", "aaabbb", "aabbcc", "aabbccdd", "aaaaaaaaaa", "aaaaabbbbb", "abbbbbbbbb",
            "aabbbbbb", "abccddd", "ddccbbaa", "aaabbbccd", "aabbccddd", "aaaabbbb", "aaaabbccdd"};
        for (String text : texts) {
            y.text = text;
            int want = y.ways();
            Due.due("ways " + text, want, Due.ways(x, text));
            Due.row("ways " + text, x, y.row(0), y.row(1));
        }
        // Of the turnings only the flips that leave an a and a b in their place keep rows: 2 times 4! each of 5.
        Due.due("ways aaabbbccdd", (25200 + 5 * 48) / 20, Due.ways(x, "cabbaddcab"));
        Due.row("ways aaabbbccdd", x, 2520, 25200);
        Due.due("none", -1, Due.ways(x, ""));
        Due.due("other", -3, Due.ways(x, "abe"));
        Due.due("eleventh", -11, Due.ways(x, "abcdabcdabc"));
        Due.due("the text is empty", 0, x.count(9));
        Due.due("the row stays", 25200, x.row(1));
    }

    private static void nth() {
        BeadRings x = new BeadRings();
        for (int n = 1; n <= 7; n++) {
            for (int k = 1; k <= 4; k++) {
                int m = 0;
                for (String want : PlainRings.listed(n, k)) {
                    if (m < 1000 && (n < 6 || m % 7 == 0)) {
                        String got = x.nth(n, k, m) == 0 ? letters(x) : "none";
                        Due.due("nth(" + n + ", " + k + ", " + m + ") is " + got, true, got.equals(want));
                    }
                    m++;
                }
                if (m < 1000) {
                    Due.due("nth beyond", -2, x.nth(n, k, m));
                    Due.due("nth far beyond", m <= 999 ? -2 : 0, x.nth(n, k, 999));
                }
            }
        }
        x.nth(3, 2, 1);
        int[][] others = {{0, 1, 0}, {8, 1, 0}, {1, 0, 0}, {1, 5, 0}, {1, 1, -1}, {1, 1, 1000}};
        for (int[] other : others) {
            Due.due("nth of others", -1, x.nth(other[0], other[1], other[2]));
        }
        Due.due("not so many", -2, x.nth(3, 2, 4));
        Due.row("the row stays", x, 0, 0, 1);
    }

    private static String letters(BeadRings x) {
        StringBuilder letters = new StringBuilder();
        for (int i = 0; i < x.count(8); i++) {
            letters.append((char) ('a' + x.row(i)));
        }
        return letters.toString();
    }

    private static void rankAndNext() {
        BeadRings x = Due.stall("abab", "abca", "dddd", "bbbbbbbb", "aaaaaaa");
        Due.due("rank", 3, x.rank(0));
        Due.due("rank", 4, x.rank(1));
        Due.due("rank of the last", 54, x.rank(2));
        Due.due("rank of eight", -2, x.rank(3));
        Due.due("rank of seven", 0, x.rank(4));
        Due.due("rank none such", -1, x.rank(5));
        Due.due("rank none such", -1, x.rank(-1));
        Due.due("next", 0, x.next(0));
        Due.row("next", x, 0, 1, 1, 1);
        Due.due("next", 0, x.next(1));
        Due.row("next", x, 0, 0, 2, 2);
        Due.due("next of the last", -2, x.next(2));
        Due.due("next of the only one", -2, x.next(4));
        Due.due("next of eight", -3, x.next(3));
        Due.due("next none such", -1, x.next(5));
        Due.row("the row stays", x, 0, 0, 2, 2);
    }

    private static void once() {
        BeadRings x = new BeadRings();
        PlainRings y = new PlainRings();
        for (int k = 0; k <= 5; k++) {
            for (int w = 0; w <= 5; w++) {
                Due.due("once(" + k + ", " + w + ")", y.once(k, w), x.once(k, w));
                Due.due("numbers", y.count(8), x.count(8));
                for (int i = 0; i < y.count(8); i++) {
                    Due.due("once(" + k + ", " + w + ") row", y.row(i), x.row(i));
                }
            }
        }
        Due.due("once(2, 4)", 16, x.once(2, 4));
        Due.row("once(2, 4)", x, 0, 0, 0, 0, 1, 0, 0, 1, 1, 0, 1, 0, 1, 1, 1, 1);
        Due.due("once(4, 3)", -1, x.once(4, 3));
        Due.due("once of far others", -1, x.once(Integer.MAX_VALUE, Integer.MAX_VALUE));
        Due.due("the row stays", 16, x.count(8));
    }

    private static void made() {
        BeadRings x = new BeadRings();
        int[] all = {4, 10, 20, 55, 136, 430, 1300};
        for (int n = 1; n <= 7; n++) {
            Due.due("made(" + n + ")", all[n - 1], x.made(n));
            Due.due("made(" + n + ") row", n, x.count(8));
            Due.due("made(" + n + ") row", 0, x.row(n - 1));
        }
        x.sheet(2, 2, 1, 1);
        Due.due("of 1 and 2", 1, x.made(3));
        Due.row("of 1 and 2", x, 0, 1, 1);
        Due.due("none", 0, x.made(4));
        Due.row("none", x);
        Due.due("others", -1, x.made(0));
        Due.due("others", -1, x.made(8));
    }

    private static void dear() {
        BeadRings x = Due.stall("aab", "abb");
        Due.due("dear", 9, x.dear(3));
        Due.row("of as dear ones the least", x, 0, 1, 2);
        Due.rule(x, "h");
        Due.due("alike", 1, x.dear(3));
        Due.row("alike", x, 0, 0, 1);
        Due.rule(x, "m*m+h*40");
        Due.due("alike", 44, x.dear(3));
        x.parts(0);
        Due.due("one that is gone is not alike", 44, x.dear(3));
        Due.row("one that is gone is not alike", x, 0, 1, 1);
        Due.due("of other beads", 4, x.dear(2));
        Due.rule(x, "0-9");
        Due.due("dearest of nothing", 0, x.dear(6));
        Due.row("dearest of nothing", x, 0, 0, 0, 0, 0, 0);
        x.sheet(2, 1, 3, 0);
        Due.due("only a", 0, x.dear(3));
        Due.due("none could", -2, x.dear(4));
        Due.due("others", -1, x.dear(0));
        Due.due("others", -1, x.dear(7));
        Due.row("the row stays", x, 0, 0, 0);
    }

    private static void odds() {
        BeadRings x = Due.stall("abca", "abab", "a", "aabb", "abcdabcdab");
        long[][] want = {{2, 3}, {1, 3}, {1, 1}, {2, 3}, {1, 1260}};
        for (int b = 0; b < want.length; b++) {
            Due.due("odds(" + b + ")", 0, x.odds(b));
            Due.row("odds(" + b + ")", x, want[b]);
        }
        Due.due("none such", -1, x.odds(5));
        Due.due("none such", -1, x.odds(-1));
        Due.row("the row stays", x, want[4]);
    }

    public static void main(String[] args) {
        many();
        ways();
        nth();
        rankAndNext();
        once();
        made();
        dear();
        odds();
        Due.end("KindsTest");
    }
}
