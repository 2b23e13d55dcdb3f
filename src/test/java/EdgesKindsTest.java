import java.util.ArrayList;
import java.util.List;

/** Promises 29 to 37, sentence by sentence. */
public final class EdgesKindsTest {
    private static final int[] FAR = {Integer.MIN_VALUE, -1000, 1000, Integer.MAX_VALUE};

    /** Known rows of numbers, for 1 .. 10 beads: of one to four colours. */
    private static final int[][] KINDS = {
        {1, 1, 1, 1, 1, 1, 1, 1, 1, 1}, {2, 3, 4, 6, 8, 13, 18, 30, 46, 78}, {3, 6, 10, 21, 39, 92, 198, 498, 1219, 3210},
        {4, 10, 20, 55, 136, 430, 1300, 4435, 15084, 53764}};
    private static final int[][] ROLLED = {
        {1, 1, 1, 1, 1, 1, 1, 1, 1, 1}, {2, 3, 4, 6, 8, 14, 20, 36, 60, 108}, {3, 6, 11, 24, 51, 130, 315, 834, 2195, 5934},
        {4, 10, 24, 70, 208, 700, 2344, 8230, 29144, 104968}};
    private static final int[][] WHOLE = {
        {1, 0, 0, 0, 0, 0, 0, 0, 0, 0}, {2, 1, 2, 3, 6, 9, 18, 30, 56, 99}, {3, 3, 8, 18, 48, 116, 312, 810, 2184, 5880},
        {4, 6, 20, 60, 204, 670, 2340, 8160, 29120, 104754}};

    private static void promise29() {
        Edge.of(29, "Of n BEADS (1 .. 10) of k COLOURS at most (1 .. 4):", () -> {
            BeadRings x = new BeadRings();
            Due.due("1 and 1", 1, x.many(1, 1));
            Due.due("10 and 4", 53764, x.many(10, 4));
            Due.due("10 and 1", 1, x.many(10, 1));
            Due.due("1 and 4", 4, x.many(1, 4));
            Due.due("stock is not asked for", 48, x.count(2));
        });
        Edge.of(29, "how many KINDS there are;", () -> {
            BeadRings x = new BeadRings();
            for (int k = 1; k <= 4; k++) {
                for (int n = 1; n <= 10; n++) {
                    Due.due("many(" + n + ", " + k + ")", KINDS[k - 1][n - 1], x.many(n, k));
                }
            }
        });
        Edge.of(29, "the ROW: how many, if two are of one only if one can be ROLLED so that it is the other one (none FLIPPED);", () -> {
            BeadRings x = new BeadRings();
            for (int k = 1; k <= 4; k++) {
                for (int n = 1; n <= 10; n++) {
                    x.many(n, k);
                    Due.due("many(" + n + ", " + k + ")", ROLLED[k - 1][n - 1], x.row(0));
                }
            }
        });
        Edge.of(29, "of how many of these none of 1 .. n - 1 ROLLS a row so that it is as it was.", () -> {
            BeadRings x = new BeadRings();
            for (int k = 1; k <= 4; k++) {
                for (int n = 1; n <= 10; n++) {
                    x.many(n, k);
                    Due.due("many(" + n + ", " + k + ")", WHOLE[k - 1][n - 1], x.row(1));
                }
            }
            Due.due("numbers", 2, x.count(8));
        });
        Edge.of(29, "NONE: others.", () -> {
            BeadRings x = Due.lived();
            Due.nothingChanges(x, () -> {
                int[][] others = {{0, 1}, {11, 1}, {1, 0}, {1, 5}, {-1, 2}, {2, -1}, {0, 0}, {11, 5}};
                for (int[] other : others) {
                    Due.due("many(" + other[0] + ", " + other[1] + ")", -1, x.many(other[0], other[1]));
                }
                for (int far : FAR) {
                    Due.due("many(" + far + ", 2)", -1, x.many(far, 2));
                    Due.due("many(2, " + far + ")", -1, x.many(2, far));
                }
            });
        });
    }

    private static void ways(String text, int want, long... row) {
        BeadRings x = new BeadRings();
        x.many(6, 2);
        Due.due("ways " + text, want, Due.ways(x, text));
        Due.row("ways " + text, x, row);
        Due.due("stock is not asked for", 48, x.count(2));
    }

    private static void addWays(long[] sums, String text) {
        BeadRings x = new BeadRings();
        sums[0] += Due.ways(x, text);
        sums[1] += x.row(0);
        sums[2] += x.row(1);
    }

    private static void promise30() {
        Edge.of(30, "THE TEXT (1 to 10 letters a .. d, in any order) tells BEADS:", () -> {
            ways("d", 1, 1, 1);
            ways("aaaaaaaaaa", 1, 1, 1);
            ways("aabb", 2, 2, 6);
            ways("abba", 2, 2, 6);
            ways("dccd", 2, 2, 6);
            ways("cabbaddcab", 1272, 2520, 25200);
        });
        Edge.of(30, "how many KINDS there are of all of these;", () -> {
            ways("abc", 1, 2, 6);
            ways("abcd", 3, 6, 24);
            ways("aaaaabbbbb", 16, 26, 252);
            ways("ab", 1, 1, 2);
            ways("aab", 1, 1, 3);
        });
        Edge.of(30, "the ROW: how many, if none may be FLIPPED (as many()); in how many rows they can lie.", () -> {
            ways("aabc", 2, 3, 12);
            ways("aabbcc", 11, 16, 90);
            ways("aaabbb", 3, 4, 20);
            ways("abbbbbbbbb", 1, 1, 10);
        });
        Edge.of(30, "the ROW: how many, if none may be FLIPPED (as many()); in how many rows they can lie.", () -> {
            // Of so many beads, all that can be told together are all kinds, and all rows, that there are.
            for (int n = 1; n <= 10; n++) {
                long[] sums = new long[3];
                for (int a = 0; a <= n; a++) {
                    for (int b = 0; a + b <= n; b++) {
                        for (int c = 0; a + b + c <= n; c++) {
                            addWays(sums, "d".repeat(n - a - b - c) + "c".repeat(c) + "b".repeat(b) + "a".repeat(a));
                        }
                    }
                }
                Due.due("kinds of " + n, KINDS[3][n - 1], sums[0]);
                Due.due("rolled kinds of " + n, ROLLED[3][n - 1], sums[1]);
                Due.due("rows of " + n, 1L << 2 * n, sums[2]);
            }
        });
        Edge.of(30, "-1 - p: as strings().", () -> {
            BeadRings x = Due.lived("abca");
            Due.onlyTextIsEmptied(x, () -> {
                Due.due("none", -1, Due.ways(x, ""));
                Due.due("no letter at first", -1, Due.ways(x, "ea"));
                Due.due("no letter at the tenth", -10, Due.ways(x, "aaaaaaaaa`"));
                Due.due("the eleventh", -11, Due.ways(x, "aaaaaaaaaaa"));
                Due.due("the eleventh is no letter", -11, Due.ways(x, "aaaaaaaaaa?"));
                Due.due("a sign above 127", -2, Due.ways(x, "a\u00e1"));
            });
        });
    }

    private static void nth(int n, int k, int m, long... row) {
        BeadRings x = new BeadRings();
        x.many(6, 2);
        Due.due("nth(" + n + ", " + k + ", " + m + ")", 0, x.nth(n, k, m));
        Due.row("nth(" + n + ", " + k + ", " + m + ")", x, row);
    }

    private static long[] colours(String letters) {
        return letters.chars().mapToLong(c -> c - 'a').toArray();
    }

    private static void promise31() {
        Edge.of(31, "KIND m (0 .. 999) of those of n BEADS (1 .. 7) of the first k COLOURS (1 .. 4),", () -> {
            nth(1, 1, 0, 0);
            nth(1, 4, 3, 3);
            nth(7, 1, 0, 0, 0, 0, 0, 0, 0, 0);
            List<String> all = new ArrayList<>(PlainRings.listed(7, 4));
            nth(7, 4, 999, colours(all.get(999)));
            nth(7, 4, 998, colours(all.get(998)));
            nth(3, 2, 3, 1, 1, 1);
            nth(3, 3, 3, 0, 1, 1);
        });
        Edge.of(31, "by their LEAST ROWS, the least 0: 0;", () -> {
            String[] three = {"aaa", "aab", "aac", "abb", "abc", "acc", "bbb", "bbc", "bcc", "ccc"};
            for (int m = 0; m < three.length; m++) {
                nth(3, 3, m, colours(three[m]));
            }
            String[] four = {"aaaa", "aaab", "aabb", "abab", "abbb", "bbbb"};
            for (int m = 0; m < four.length; m++) {
                nth(4, 2, m, colours(four[m]));
            }
        });
        Edge.of(31, "the ROW: its LEAST ROW.", () -> {
            nth(5, 2, 7, 1, 1, 1, 1, 1);
            nth(6, 4, 429, 3, 3, 3, 3, 3, 3);
            nth(7, 3, 197, 2, 2, 2, 2, 2, 2, 2);
            nth(7, 4, 1, 0, 0, 0, 0, 0, 0, 1);
        });
        Edge.of(31, "-2: there are not so many;", () -> {
            BeadRings x = Due.lived("abca");
            Due.nothingChanges(x, () -> {
                int[][] behind = {{1, 1, 1}, {1, 4, 4}, {2, 4, 10}, {3, 2, 4}, {5, 4, 136}, {6, 4, 430}, {7, 1, 1}, {7, 3, 198}, {6, 4, 999}};
                for (int[] one : behind) {
                    Due.due("nth(" + one[0] + ", " + one[1] + ", " + one[2] + ")", -2, x.nth(one[0], one[1], one[2]));
                }
            });
        });
        Edge.of(31, "NONE: others.", () -> {
            BeadRings x = Due.lived("abca");
            Due.nothingChanges(x, () -> {
                int[][] others = {{0, 1, 0}, {8, 4, 0}, {1, 0, 0}, {1, 5, 0}, {7, 4, -1}, {7, 4, 1000}, {8, 4, 999}, {1, 1, 1000}};
                for (int[] one : others) {
                    Due.due("nth(" + one[0] + ", " + one[1] + ", " + one[2] + ")", -1, x.nth(one[0], one[1], one[2]));
                }
                for (int far : FAR) {
                    Due.due("n " + far, -1, x.nth(far, 2, 0));
                    Due.due("k " + far, -1, x.nth(2, far, 0));
                    Due.due("m " + far, -1, x.nth(2, 2, far));
                }
            });
        });
    }

    private static void promise32() {
        Edge.of(32, "Which KIND a BRACELET is of, as nth() counts those of its BEADS, of COLOURS up to its greatest one: it.", () -> {
            String[] bracelets = {"a", "b", "d", "aaa", "aba", "caa", "daa", "abb", "bbb", "cbb", "abca", "baba", "dddd", "aaaaaaa", "ddddddd"};
            int[] want = {0, 1, 3, 0, 1, 2, 3, 2, 3, 7, 4, 3, 54, 0, 1299};
            for (int i = 0; i < want.length; i++) {
                BeadRings x = Due.stall(bracelets[i]);
                x.many(6, 2);
                Due.due(bracelets[i], want[i], x.rank(0));
                Due.row("it tells no ROW", x, 14, 9);
            }
        });
        Edge.of(32, "-2: it has more than 7 BEADS;", () -> {
            BeadRings x = Due.lived("aaaaaaaa", "bbbbbbbbbb", "ccccccc");
            Due.nothingChanges(x, () -> {
                Due.due("eight", -2, x.rank(0));
                Due.due("ten", -2, x.rank(1));
            });
            Due.due("seven", 197, x.rank(2));
        });
        Edge.of(32, "NONE: none such.", () -> {
            BeadRings x = Due.lived("abca");
            Due.nothingChanges(x, () -> {
                Due.due("1 of one", -1, x.rank(1));
                Due.due("-1", -1, x.rank(-1));
                for (int far : FAR) {
                    Due.due("" + far, -1, x.rank(far));
                }
            });
        });
    }

    private static void next(String bracelet, String want) {
        BeadRings x = Due.stall(bracelet);
        x.many(6, 2);
        Due.due("next of " + bracelet, 0, x.next(0));
        Due.row("next of " + bracelet, x, colours(want));
    }

    private static void promise33() {
        Edge.of(33, "The KIND behind that of a BRACELET (as rank() counts, of as many BEADS, of COLOURS up to its greatest one): 0;", () -> {
            next("aab", "abb");
            next("caa", "abb");
            next("daa", "abb");
            next("baba", "abbb");
            next("abca", "aacc");
            next("aaaaaac", "aaaaabb");
            next("aaaaaab", "aaaaabb");
        });
        Edge.of(33, "the ROW: its LEAST ROW.", () -> {
            next("ba", "bb");
            next("cbb", "bcc");
            next("bcc", "ccc");
            next("dccc", "ccdd");
            next("cdddddd", "ddddddd");
        });
        Edge.of(33, "-2: it is the last one;", () -> {
            String[] last = {"a", "b", "c", "d", "aa", "bb", "ccc", "dddd", "aaaaaaa", "ddddddd"};
            for (String bracelet : last) {
                BeadRings x = Due.lived(bracelet);
                Due.nothingChanges(x, () -> Due.due(bracelet, -2, x.next(0)));
            }
        });
        Edge.of(33, "-3: it has more than 7 BEADS;", () -> {
            BeadRings x = Due.lived("aabcaabc", "bbbbbbbbbb", "aaaaaaaa");
            Due.nothingChanges(x, () -> {
                Due.due("eight", -3, x.next(0));
                Due.due("ten", -3, x.next(1));
                Due.due("eight of one colour", -3, x.next(2));
            });
        });
        Edge.of(33, "NONE: none such.", () -> {
            BeadRings x = Due.lived("abca");
            Due.nothingChanges(x, () -> {
                Due.due("1 of one", -1, x.next(1));
                Due.due("-1", -1, x.next(-1));
                for (int far : FAR) {
                    Due.due("" + far, -1, x.next(far));
                }
            });
        });
    }

    private static void once(int k, int w, long... row) {
        BeadRings x = new BeadRings();
        x.many(6, 2);
        Due.due("once(" + k + ", " + w + ")", row.length, x.once(k, w));
        Due.row("once(" + k + ", " + w + ")", x, row);
    }

    private static void promise34() {
        Edge.of(34, "The least row of COLOURS, below k (1 .. 4), that, read around, has each word of w (1 .. 4) such just once:", () -> {
            once(1, 1, 0);
            once(1, 2, 0);
            once(1, 4, 0);
            once(2, 4, 0, 0, 0, 0, 1, 0, 0, 1, 1, 0, 1, 0, 1, 1, 1, 1);
            once(4, 1, 0, 1, 2, 3);
        });
        Edge.of(34, "how long it is;", () -> {
            BeadRings x = new BeadRings();
            int[][] want = {{1, 1, 1, 1}, {2, 4, 8, 16}, {3, 9, -1, -1}, {4, 16, -1, -1}};
            for (int k = 1; k <= 4; k++) {
                for (int w = 1; w <= 4; w++) {
                    Due.due("once(" + k + ", " + w + ")", want[k - 1][w - 1], x.once(k, w));
                }
            }
        });
        Edge.of(34, "the ROW: it.", () -> {
            once(2, 1, 0, 1);
            once(2, 2, 0, 0, 1, 1);
            once(2, 3, 0, 0, 0, 1, 0, 1, 1, 1);
            once(3, 1, 0, 1, 2);
            once(3, 2, 0, 0, 1, 0, 2, 1, 1, 2, 2);
            once(4, 2, 0, 0, 1, 0, 2, 0, 3, 1, 1, 2, 1, 3, 2, 2, 3, 3);
        });
        Edge.of(34, "NONE: others, one that would be longer than 16.", () -> {
            BeadRings x = Due.lived("abca");
            Due.nothingChanges(x, () -> {
                int[][] others = {{0, 1}, {5, 1}, {1, 0}, {1, 5}, {2, 0}, {2, 5}, {-1, 2}, {2, -1}, {3, 3}, {3, 4}, {4, 3}, {4, 4}};
                for (int[] one : others) {
                    Due.due("once(" + one[0] + ", " + one[1] + ")", -1, x.once(one[0], one[1]));
                }
                for (int far : FAR) {
                    Due.due("k " + far, -1, x.once(far, 1));
                    Due.due("w " + far, -1, x.once(1, far));
                }
            });
        });
    }

    private static BeadRings stocked(int f, int step, int entries) {
        BeadRings x = new BeadRings();
        x.sheet(2, entries, f, step);
        x.many(6, 2);
        return x;
    }

    private static void promise35() {
        Edge.of(35, "How many KINDS of n BEADS (1 .. 7) could be strung out of STOCK: how many;", () -> {
            int[] all = {4, 10, 20, 55, 136, 430, 1300};
            for (int n = 1; n <= 7; n++) {
                Due.due("of all colours, " + n, all[n - 1], new BeadRings().made(n));
                Due.due("of just as many, " + n, all[n - 1], stocked(n, 0, 4).made(n));
                Due.due("of one a more than there are", 0, stocked(n - 1, 0, 1).made(n));
                Due.due("of a alone, " + n, 1, stocked(n, 0, 1).made(n));
            }
            Due.due("but for four of one colour", 55 - 4, stocked(3, 0, 4).made(4));
            Due.due("b, two c, three d: bc, bd, cc, cd, dd", 5, stocked(0, 1, 4).made(2));
            BeadRings x = Due.stall("a", "b", "c", "d", "a");
            Due.due("how many bracelets there are is not asked for", 4, x.made(1));
            x.sheet(2, 1, 1, 0);
            Due.due("beads of bracelets are not in stock", 0, x.made(2));
        });
        Edge.of(35, "the ROW: the LEAST ROW of the least one", () -> {
            BeadRings x = stocked(0, 1, 4);
            x.made(1);
            Due.row("b", x, 1);
            x.made(2);
            Due.row("bc", x, 1, 2);
            x.made(6);
            Due.row("bccddd", x, 1, 2, 2, 3, 3, 3);
            BeadRings y = stocked(7, 0, 1);
            y.made(7);
            Due.row("a alone", y, 0, 0, 0, 0, 0, 0, 0);
        });
        Edge.of(35, "(nothing without).", () -> {
            BeadRings x = stocked(0, 1, 4);
            Due.due("seven of six", 0, x.made(7));
            Due.row("seven of six", x);
            BeadRings y = stocked(0, 0, 0);
            Due.due("of nothing", 0, y.made(1));
            Due.row("of nothing", y);
        });
        Edge.of(35, "NONE: another n.", () -> {
            BeadRings x = Due.lived("abca");
            Due.nothingChanges(x, () -> {
                Due.due("none", -1, x.made(0));
                Due.due("eight", -1, x.made(8));
                Due.due("-1", -1, x.made(-1));
                for (int far : FAR) {
                    Due.due("" + far, -1, x.made(far));
                }
            });
        });
    }

    private static void promise36() {
        Edge.of(36, "The dearest KIND of n BEADS (1 .. 6) that could be strung out of STOCK", () -> {
            Due.due("one", 3, new BeadRings().dear(1));
            Due.due("six", 14, new BeadRings().dear(6));
            BeadRings x = stocked(0, 1, 4);
            Due.rule(x, "m*10");
            Due.due("three d", 30, x.dear(3));
            Due.row("three d", x, 3, 3, 3);
            Due.due("two c", 20, x.dear(2));
            Due.row("two c", x, 2, 2);
            Due.due("six of six", 30, x.dear(6));
            Due.row("six of six", x, 1, 2, 2, 3, 3, 3);
        });
        Edge.of(36, "(h: to how many BRACELETS it would be ALIKE):", () -> {
            BeadRings x = Due.stall("ab", "ba", "a", "bb", "abab");
            Due.rule(x, "h*10");
            Due.due("two are", 20, x.dear(2));
            Due.row("two are", x, 0, 1);
            Due.due("one is", 10, x.dear(4));
            Due.row("one is", x, 0, 1, 0, 1);
            Due.due("one is of one", 10, x.dear(1));
            Due.due("none is", 0, x.dear(3));
            x.parts(4);
            Due.due("one that is gone is none", 0, x.dear(4));
            BeadRings y = Due.stall("a", "ab");
            Due.rule(y, "h*10");
            Due.due("of other numbers of beads", 0, y.dear(3));
        });
        Edge.of(36, "PRICE;", () -> {
            BeadRings x = new BeadRings();
            Due.rule(x, "n*n*n");
            Due.due("put to 99", 99, x.dear(6));
            Due.due("64", 64, x.dear(4));
            Due.rule(x, "0-n");
            Due.due("put to 0", 0, x.dear(3));
            Due.row("put to 0", x, 0, 0, 0);
        });
        Edge.of(36, "the ROW: its LEAST ROW", () -> {
            BeadRings x = new BeadRings();
            x.dear(6);
            Due.row("six", x, 0, 0, 0, 1, 2, 3);
            x.dear(4);
            Due.row("four", x, 0, 1, 2, 3);
            Due.rule(x, "t*10-f*10");
            Due.due("four that no flip keeps", 40, x.dear(4));
            Due.row("four that no flip keeps", x, 0, 0, 1, 2);
        });
        Edge.of(36, "(of as dear ones the least).", () -> {
            BeadRings x = stocked(0, 9, 4);
            Due.rule(x, "5");
            Due.due("all for 5", 5, x.dear(3));
            Due.row("all for 5", x, 1, 1, 1);
            x.dear(1);
            Due.row("all for 5", x, 1);
            Due.rule(x, "c");
            x.dear(2);
            Due.row("of two colours", x, 1, 2);
        });
        Edge.of(36, "-2: none could;", () -> {
            BeadRings x = Due.lived("abca");
            x.sheet(2, 2, 1, 1);
            Due.nothingChanges(x, () -> {
                Due.due("four of three", -2, x.dear(4));
                Due.due("six of three", -2, x.dear(6));
            });
            Due.due("three of three", 7, x.dear(3));
            x.sheet(3, 0, 0, 0);
            Due.due("of nothing", -2, x.dear(1));
        });
        Edge.of(36, "NONE: another n.", () -> {
            BeadRings x = Due.lived("abca");
            Due.nothingChanges(x, () -> {
                Due.due("none", -1, x.dear(0));
                Due.due("seven", -1, x.dear(7));
                Due.due("eight", -1, x.dear(8));
                Due.due("-1", -1, x.dear(-1));
                for (int far : FAR) {
                    Due.due("" + far, -1, x.dear(far));
                }
            });
        });
    }

    private static void odds(String bracelet, long upper, long lower) {
        BeadRings x = Due.stall(bracelet);
        x.many(6, 2);
        Due.due("odds of " + bracelet, 0, x.odds(0));
        Due.row("odds of " + bracelet, x, upper, lower);
    }

    private static void promise37() {
        Edge.of(37, "BEADS of a BRACELET are strung anew by lots, each row of them as likely:", () -> {
            odds("abab", 1, 3);
            odds("baba", 1, 3);
            odds("aabb", 2, 3);
            BeadRings x = Due.lived("abca");
            Due.onlyTextAndRowChange(x, () -> x.odds(0));
        });
        Edge.of(37, "how likely it is ALIKE to what it was: 0;", () -> {
            odds("d", 1, 1);
            odds("dddddddddd", 1, 1);
            odds("ab", 1, 1);
            odds("abc", 1, 1);
            odds("abcd", 1, 3);
            odds("abca", 2, 3);
        });
        Edge.of(37, "the ROW: the fraction.", () -> {
            odds("abcdabcdab", 1, 1260);
            odds("aaaaabbbbb", 5, 126);
            odds("ababababab", 1, 126);
            odds("aaabbb", 3, 10);
        });
        Edge.of(37, "NONE: none such.", () -> {
            BeadRings x = Due.lived("abca");
            Due.nothingChanges(x, () -> {
                Due.due("1 of one", -1, x.odds(1));
                Due.due("-1", -1, x.odds(-1));
                for (int far : FAR) {
                    Due.due("" + far, -1, x.odds(far));
                }
            });
        });
    }

    public static void main(String[] args) {
        promise29();
        promise30();
        promise31();
        promise32();
        promise33();
        promise34();
        promise35();
        promise36();
        promise37();
        Edge.allAreQuoted(29, 37);
        Due.end("EdgesKindsTest");
    }
}
