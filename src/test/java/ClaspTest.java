/** Promises 38 to 45: where the clasp was, which bracelet it was. */
public final class ClaspTest {
    private static void felt() {
        BeadRings x = new BeadRings();
        int[][] others = {{-1, 0}, {10, 0}, {0, -1}, {0, 4}};
        for (int[] other : others) {
            Due.due("felt others", -1, x.felt(other[0], other[1]));
        }
        Due.due("forget nothing", 0, x.forget());
        for (int i = 1; i <= 10; i++) {
            Due.due("felt", i, x.felt(10 - i, i % 4));
        }
        Due.due("an eleventh", -1, x.felt(0, 0));
        Due.due("count(5)", 10, x.count(5));
        Due.due("forget", 10, x.forget());
        Due.due("count(5)", 0, x.count(5));
        Due.due("felt anew", 1, x.felt(9, 3));
    }

    private static void guess() {
        BeadRings x = Due.stall("abca", "abc");
        Due.due("nothing felt", 15, x.guess(0));
        Due.row("nothing felt", x, 4, 1);
        x.felt(0, 0);
        Due.due("a", 9, x.guess(0));
        Due.row("a", x, 2, 1);
        x.felt(1, 0);
        Due.due("aa", 8, x.guess(0));
        Due.row("aa", x, 1, 0);
        Due.due("aa is nowhere", 0, x.guess(1));
        Due.row("aa is nowhere", x, 0, 0);
        Due.due("none such", -1, x.guess(2));
        Due.due("none such", -1, x.guess(-1));
        Due.row("the row stays", x, 0, 0);
        x.forget();
        x.felt(4, 1);
        Due.due("rest of 4 by 4", 2, x.guess(0));
        Due.due("rest of 4 by 3", 1, x.guess(1));
        Due.row("rest of 4 by 3", x, 1, 1);
    }

    private static void feels() {
        BeadRings x = Due.stall("abca", "aabb", "aaa", "abcd");
        Due.due("first", 0, x.feels(0));
        Due.row("first", x, 2);
        x.felt(0, 0);
        Due.due("second", 1, x.feels(0));
        Due.row("second", x, 1);
        Due.due("aabb", 1, x.feels(1));
        Due.row("aabb", x, 1);
        Due.due("all the same", 0, x.feels(2));
        Due.row("all the same", x, 3);
        Due.due("one left", 0, x.feels(3));
        Due.row("one left", x, 1);
        x.felt(0, 3);
        Due.due("none left", -2, x.feels(0));
        Due.due("none such", -1, x.feels(4));
        Due.row("the row stays", x, 1);
    }

    private static void heard() {
        BeadRings x = new BeadRings();
        int[][] others = {{0, 0}, {0, 10}, {1, -1}, {1, 4}, {2, 0}, {2, 10}, {3, 0}, {3, 10}, {-1, 1}, {4, 1}};
        for (int[] other : others) {
            Due.due("heard others", -1, x.heard(other[0], other[1]));
        }
        Due.due("denies nothing", 0, x.denies());
        int[][] edges = {{0, 1}, {0, 9}, {1, 0}, {1, 3}, {2, 1}, {2, 9}, {3, 1}, {3, 9}, {0, 5}, {0, 5}, {0, 5}, {0, 5}};
        for (int i = 0; i < edges.length; i++) {
            Due.due("heard", i + 1, x.heard(edges[i][0], edges[i][1]));
        }
        Due.due("a thirteenth", -1, x.heard(0, 1));
        Due.due("count(6)", 12, x.count(6));
        Due.due("denies", 12, x.denies());
        Due.due("count(6)", 0, x.count(6));
    }

    private static int fitsBy(BeadRings x, int what, int v) {
        x.denies();
        x.heard(what, v);
        return x.fits();
    }

    private static void fits() {
        BeadRings x = Due.stall("abab", "abc", "aaabbb", "d", "dddddddddd");
        Due.due("all", 31, x.fits());
        Due.row("all", x, 5);
        Due.due("four or more", 1 | 4 | 16, fitsBy(x, 0, 4));
        Due.row("four or more", x, 3);
        Due.due("nine or more", 16, fitsBy(x, 0, 9));
        Due.due("a", 7, fitsBy(x, 1, 0));
        Due.due("d", 24, fitsBy(x, 1, 3));
        Due.due("t is 1", 24, fitsBy(x, 2, 1));
        Due.due("t is 2", 1, fitsBy(x, 2, 2));
        Due.due("t is 6", 4, fitsBy(x, 2, 6));
        Due.due("three of one", 4 | 16, fitsBy(x, 3, 3));
        Due.due("nine of one", 16, fitsBy(x, 3, 9));
        x.heard(1, 0);
        Due.due("none", 0, x.fits());
        Due.row("none", x, 0);
        x.denies();
        Due.due("what is denied is not heard", 31, x.fits());
        BeadRings y = new BeadRings();
        Due.due("no bracelets", 0, y.fits());
        Due.row("no bracelets", y, 0);
    }

    private static void asks() {
        BeadRings x = Due.stall("ab", "bcd", "abcd", "aabb");
        Due.due("asks", 4, x.asks());
        Due.row("asks", x, 2);
        x.heard(0, 4);
        Due.due("of the two with four", 12, x.asks());
        Due.row("of the two with four", x, 1);
        x.heard(1, 2);
        Due.due("one left", 1, x.asks());
        Due.row("one left", x, 1);
        x.heard(2, 9);
        Due.due("none fits", -2, x.asks());
        Due.row("the row stays", x, 1);
        Due.due("no bracelets", -2, new BeadRings().asks());
        BeadRings y = Due.stall("aab", "abb", "aaa");
        Due.due("a colour", 11, y.asks());
        Due.row("a colour", y, 2);
        String[][] pairs = {
            {"a", "aa"}, {"aaaaaaaa", "aaaaaaaaa"}, {"abb", "bbb"}, {"aab", "aac"}, {"abca", "abcd"}, {"abab", "aabb"}, {"aabaab", "aaaabb"},
            {"aaaabb", "aaabbb"}, {"aaabbc", "aabbcc"}, {"aaaaaaaabb", "aaaaaaaaab"}};
        int[] answers = {2, 9, 10, 11, 13, 22, 23, 34, 33, 39};
        for (int i = 0; i < pairs.length; i++) {
            BeadRings z = new BeadRings();
            z.sheet(2, 4, 99, 0);
            Due.strings(z, pairs[i][0]);
            Due.strings(z, pairs[i][1]);
            Due.due("asks of " + pairs[i][0] + " and " + pairs[i][1], answers[i], z.asks());
            Due.row("asks of " + pairs[i][0] + " and " + pairs[i][1], z, 1);
        }
    }

    public static void main(String[] args) {
        felt();
        guess();
        feels();
        heard();
        fits();
        asks();
        Due.end("ClaspTest");
    }
}
