/** Promises 21 to 28, sentence by sentence. */
public final class EdgesTurnedTest {
    private static final int[] FAR = {Integer.MIN_VALUE, -1000, 1000, Integer.MAX_VALUE};

    private interface Ask {
        int of(BeadRings x);
    }

    /** A stall with beads enough for these. */
    private static BeadRings stocked(String... bracelets) {
        BeadRings x = new BeadRings();
        x.sheet(2, 4, 99, 0);
        for (int i = 0; i < bracelets.length; i++) {
            Due.due("strings " + bracelets[i], i, Due.strings(x, bracelets[i]));
        }
        return x;
    }

    private static void asked(String bracelet, Ask ask, int want, long... row) {
        BeadRings x = stocked(bracelet);
        x.many(6, 2);
        Due.due(bracelet, want, ask.of(x));
        Due.row(bracelet, x, row);
    }

    private static void asked(String bracelet, String other, Ask ask, int want, long... row) {
        BeadRings x = stocked(bracelet, other);
        x.many(6, 2);
        Due.due(bracelet + " and " + other, want, ask.of(x));
        Due.row(bracelet + " and " + other, x, row);
    }

    private static void promise21() {
        Edge.of(21, "The TURNING by which a BRACELET is its LEAST ROW: it;", () -> {
            String[] bracelets = {"b", "ab", "ba", "abca", "dcba", "cbad", "abcdddddda", "addddddcba", "baaaaaaaaa", "aaaaaaaaaa"};
            int[] want = {0, 0, 1, 3, 100, 101, 9, 109, 1, 0};
            for (int i = 0; i < want.length; i++) {
                Due.due(bracelets[i], want[i], stocked(bracelets[i]).least(0));
            }
        });
        Edge.of(21, "the ROW: the LEAST ROW.", () -> {
            asked("d", x -> x.least(0), 0, 3);
            asked("abca", x -> x.least(0), 3, 0, 0, 1, 2);
            asked("addddddcba", x -> x.least(0), 109, 0, 0, 1, 2, 3, 3, 3, 3, 3, 3);
            asked("cbcb", x -> x.least(0), 1, 1, 2, 1, 2);
        });
        Edge.of(21, "NONE: none such.", () -> {
            BeadRings x = Due.lived("abca");
            Due.nothingChanges(x, () -> {
                Due.due("1 of one", -1, x.least(1));
                Due.due("-1", -1, x.least(-1));
                for (int far : FAR) {
                    Due.due("" + far, -1, x.least(far));
                }
            });
        });
    }

    private static void promise22() {
        Edge.of(22, "The TURNING by which a BRACELET is as another one is (itself, too): it;", () -> {
            BeadRings x = Due.stall("abca", "caab", "acba", "aacb", "abca");
            int[] want = {0, 2, 100, 103, 0};
            for (int other = 0; other < 5; other++) {
                Due.due("0 and " + other, want[other], x.alike(0, other));
            }
            int[] back = {0, 2, 100, 103, 0};
            for (int b = 0; b < 5; b++) {
                Due.due(b + " and 0", back[b], x.alike(b, 0));
            }
            Due.due("one bead", 0, Due.stall("d").alike(0, 0));
        });
        Edge.of(22, "the ROW: by how many TURNINGS (of 2 times its BEADS) it is.", () -> {
            asked("a", x -> x.alike(0, 0), 0, 2);
            asked("ab", x -> x.alike(0, 0), 0, 2);
            asked("aa", x -> x.alike(0, 0), 0, 4);
            asked("aab", x -> x.alike(0, 0), 0, 2);
            asked("abc", x -> x.alike(0, 0), 0, 1);
            asked("abab", x -> x.alike(0, 0), 0, 4);
            asked("aaaaaaaaaa", x -> x.alike(0, 0), 0, 20);
            asked("abcabc", "cbacba", x -> x.alike(0, 1), 100, 2);
            asked("abab", "baba", x -> x.alike(0, 1), 1, 4);
        });
        Edge.of(22, "-2: by none;", () -> {
            String[][] pairs = {{"aabb", "abab"}, {"a", "b"}, {"a", "aa"}, {"ab", "abab"}, {"ab", "aab"}, {"aab", "ab"}, {"aaaaaaaaaa", "aaaaaaaaa"}};
            for (String[] pair : pairs) {
                asked(pair[0], pair[1], x -> x.alike(0, 1), -2, 14, 9);
                asked(pair[0], pair[1], x -> x.alike(1, 0), -2, 14, 9);
            }
        });
        Edge.of(22, "NONE: none such.", () -> {
            BeadRings x = Due.lived("abca");
            Due.nothingChanges(x, () -> {
                Due.due("1 of one", -1, x.alike(1, 0));
                Due.due("other 1 of one", -1, x.alike(0, 1));
                Due.due("-1", -1, x.alike(-1, 0));
                Due.due("other -1", -1, x.alike(0, -1));
                Due.due("both", -1, x.alike(1, 1));
                for (int far : FAR) {
                    Due.due("" + far, -1, x.alike(far, 0));
                    Due.due("other " + far, -1, x.alike(0, far));
                }
            });
        });
    }

    private static void promise23() {
        Edge.of(23, "How many KINDS BRACELETS are of: how many;", () -> {
            Due.due("none", 0, new BeadRings().kinds());
            Due.due("one", 1, Due.stall("a").kinds());
            Due.due("five of one", 1, Due.stall("ab", "ba", "ab", "ba", "ab").kinds());
            Due.due("five of five", 5, Due.stall("a", "aa", "ab", "aab", "abab").kinds());
            Due.due("five of three", 3, Due.stall("aabc", "d", "caab", "cbaa", "dd").kinds());
        });
        Edge.of(23, "the ROW: of each of them the first one that is ALIKE (itself, too).", () -> {
            BeadRings x = new BeadRings();
            x.many(6, 2);
            x.kinds();
            Due.row("none", x);
            BeadRings y = Due.stall("d", "aabc", "dd", "caab", "d");
            y.kinds();
            Due.row("five", y, 0, 1, 2, 1, 0);
            y.parts(0);
            y.kinds();
            Due.row("behind one that is gone", y, 0, 1, 0, 3);
            BeadRings z = Due.stall("a", "aa", "aaa", "ab", "aab");
            z.kinds();
            Due.row("of other numbers of beads", z, 0, 1, 2, 3, 4);
        });
    }

    private static void promise24() {
        Edge.of(24, "The fewest BEADS that are of another COLOUR, place by place, than those of another one, if a BRACELET is turned: how many;", () -> {
            String[][] pairs = {{"a", "a"}, {"a", "d"}, {"ab", "ba"}, {"abcd", "dcba"}, {"abcd", "dcbb"}, {"aabb", "abab"}, {"abca", "abab"},
                {"aaaaaaaaaa", "bbbbbbbbbb"}, {"abcdabcdab", "badcbadcba"}, {"dddddddddd", "ddddddddda"}};
            int[] want = {0, 1, 0, 0, 1, 2, 2, 10, 0, 1};
            for (int i = 0; i < want.length; i++) {
                Due.due(pairs[i][0] + " and " + pairs[i][1], want[i], stocked(pairs[i]).far(0, 1));
            }
            Due.due("itself", 0, stocked("abcd").far(0, 0));
        });
        Edge.of(24, "the ROW: the TURNING.", () -> {
            asked("a", "d", x -> x.far(0, 1), 1, 0);
            asked("ab", "ba", x -> x.far(0, 1), 0, 1);
            asked("abcd", "dcbb", x -> x.far(0, 1), 1, 100);
            asked("abcd", "adcc", x -> x.far(0, 1), 1, 103);
            asked("abcddddddd", "dabcddddda", x -> x.far(0, 1), 1, 9);
            asked("abcddddddd", "adddddddcc", x -> x.far(0, 1), 1, 109);
            asked("abab", "aaaa", x -> x.far(0, 1), 2, 0);
        });
        Edge.of(24, "-2: they have not as many BEADS;", () -> {
            asked("a", "aa", x -> x.far(0, 1), -2, 14, 9);
            asked("aab", "ab", x -> x.far(0, 1), -2, 14, 9);
            asked("aaaaaaaaa", "aaaaaaaaaa", x -> x.far(0, 1), -2, 14, 9);
        });
        Edge.of(24, "NONE: none such.", () -> {
            BeadRings x = Due.lived("abca");
            Due.nothingChanges(x, () -> {
                Due.due("1 of one", -1, x.far(1, 0));
                Due.due("other 1 of one", -1, x.far(0, 1));
                Due.due("-1", -1, x.far(-1, 0));
                Due.due("other -1", -1, x.far(0, -1));
                Due.due("both", -1, x.far(1, 1));
                for (int far : FAR) {
                    Due.due("" + far, -1, x.far(far, 0));
                    Due.due("other " + far, -1, x.far(0, far));
                }
            });
        });
    }

    private static void promise25() {
        Edge.of(25, "THE TEXT is a word (1 to 10 letters a .. d):", () -> {
            BeadRings x = Due.stall("abcdabcdab");
            Due.due("one letter", 1 | 16 | 256, Due.finds(x, 0, "a"));
            Due.due("ten letters", 4, Due.finds(x, 0, "cdabcdabab"));
            Due.due("THE TEXT is read", 0, x.count(9));
        });
        Edge.of(25, "at which BEADS of a BRACELET it begins, read around (bits): them;", () -> {
            BeadRings x = stocked("abcab", "aaa", "d", "baaaaaaaab");
            Due.due("twice", 1 | 8, Due.finds(x, 0, "ab"));
            Due.due("around", 16, Due.finds(x, 0, "babc"));
            Due.due("all", 7, Due.finds(x, 1, "aaa"));
            Due.due("one bead", 1, Due.finds(x, 2, "d"));
            Due.due("nowhere", 0, Due.finds(x, 2, "a"));
            Due.due("nowhere flipped", 0, Due.finds(x, 0, "cba"));
            Due.due("at the tenth", 512, Due.finds(x, 3, "bb"));
        });
        Edge.of(25, "the ROW: how many.", () -> {
            BeadRings x = Due.stall("abcab", "aaaaaaaaaa");
            Due.finds(x, 0, "ab");
            Due.row("two", x, 2);
            Due.finds(x, 0, "cc");
            Due.row("none", x, 0);
            Due.finds(x, 1, "aaaaaaaaaa");
            Due.row("ten", x, 10);
        });
        Edge.of(25, "-1 - p: as strings().", () -> {
            BeadRings x = Due.lived("abcdabcdab");
            Due.onlyTextIsEmptied(x, () -> {
                Due.due("none", -1, Due.finds(x, 0, ""));
                Due.due("no letter at first", -1, Due.finds(x, 0, "ea"));
                Due.due("no letter at the tenth", -10, Due.finds(x, 0, "aaaaaaaaa`"));
                Due.due("the eleventh", -11, Due.finds(x, 0, "aaaaaaaaaaa"));
                Due.due("the eleventh is no letter", -11, Due.finds(x, 0, "aaaaaaaaaa?"));
                Due.due("a sign above 127", -2, Due.finds(x, 0, "a\u00e1"));
            });
        });
        Edge.of(25, "-100: no such BRACELET;", () -> {
            BeadRings x = Due.lived("abca");
            Due.onlyTextIsEmptied(x, () -> {
                Due.due("1 of one", -100, Due.finds(x, 1, "a"));
                Due.due("-1", -100, Due.finds(x, -1, "a"));
                for (int far : FAR) {
                    Due.due("" + far, -100, Due.finds(x, far, "a"));
                }
            });
        });
        Edge.of(25, "-101: the word is longer", () -> {
            BeadRings x = Due.lived("abca", "d");
            Due.onlyTextIsEmptied(x, () -> {
                Due.due("five of four", -101, Due.finds(x, 0, "abcaa"));
                Due.due("two of one", -101, Due.finds(x, 1, "dd"));
                Due.due("ten of four", -101, Due.finds(x, 0, "abcaabcaab"));
            });
            Due.due("four of four", 1, Due.finds(x, 0, "abca"));
        });
        Edge.of(25, "(asked in this order, behind all signs).", () -> {
            BeadRings x = Due.lived("abca");
            Due.onlyTextIsEmptied(x, () -> {
                Due.due("signs ahead of no such", -6, Due.finds(x, 1, "aaaaae"));
                Due.due("none ahead of no such", -1, Due.finds(x, 1, ""));
                Due.due("the eleventh ahead of no such", -11, Due.finds(x, -1, "aaaaaaaaaaa"));
                Due.due("signs ahead of longer", -6, Due.finds(x, 0, "aaaaae"));
                Due.due("no such ahead of longer", -100, Due.finds(x, 1, "aaaaaaaaaa"));
            });
        });
    }

    private static void promise26() {
        Edge.of(26, "How many different words of w BEADS", () -> {
            BeadRings x = Due.stall("abcab", "aaaa", "abab", "abcd");
            Due.due("of one", 3, x.words(0, 1));
            Due.due("of two", 4, x.words(0, 2));
            Due.due("of three", 5, x.words(0, 3));
            Due.due("all the same", 1, x.words(1, 2));
            Due.due("two of four", 2, x.words(2, 3));
            Due.due("all different", 4, x.words(3, 1));
        });
        Edge.of(26, "(1 .. as many as it has)", () -> {
            BeadRings x = Due.lived("abcab", "d", "abcdabcdab");
            Due.due("five of five", 5, x.words(0, 5));
            Due.due("one of one", 1, x.words(1, 1));
            Due.due("ten of ten", 10, x.words(2, 10));
            x.many(6, 2);
            Due.nothingChanges(x, () -> {
                Due.due("six of five", -1, x.words(0, 6));
                Due.due("two of one", -1, x.words(1, 2));
                Due.due("eleven of ten", -1, x.words(2, 11));
                Due.due("none", -1, x.words(0, 0));
                Due.due("-1", -1, x.words(0, -1));
            });
        });
        Edge.of(26, "there are around: how many;", () -> {
            BeadRings x = Due.stall("abca", "aab");
            Due.due("ab, bc, ca, aa", 4, x.words(0, 2));
            Due.due("aa, ab, ba", 3, x.words(1, 2));
        });
        Edge.of(26, "the ROW: how often the one is there that is the most often, the first BEAD at which it begins", () -> {
            asked("abcab", x -> x.words(0, 2), 4, 2, 0);
            asked("cabab", x -> x.words(0, 2), 4, 2, 1);
            asked("baa", x -> x.words(0, 1), 2, 2, 1);
            asked("d", x -> x.words(0, 1), 1, 1, 0);
            asked("aaaaaaaaaa", x -> x.words(0, 10), 1, 10, 0);
            asked("dabcabcabc", x -> x.words(0, 3), 6, 3, 1);
        });
        Edge.of(26, "(of as many the one that begins first).", () -> {
            asked("abbcc", x -> x.words(0, 1), 3, 2, 1);
            asked("accbb", x -> x.words(0, 1), 3, 2, 1);
            asked("dcba", x -> x.words(0, 1), 4, 1, 0);
            asked("baba", x -> x.words(0, 2), 2, 2, 0);
        });
        Edge.of(26, "NONE: others.", () -> {
            BeadRings x = Due.lived("abca");
            Due.nothingChanges(x, () -> {
                Due.due("1 of one", -1, x.words(1, 1));
                Due.due("-1", -1, x.words(-1, 1));
                for (int far : FAR) {
                    Due.due("bracelet " + far, -1, x.words(far, 1));
                    Due.due("of " + far, -1, x.words(0, far));
                }
            });
        });
    }

    private static void promise27() {
        Edge.of(27, "The longest word,", () -> {
            asked("abcab", x -> x.twice(0), 2, 0, 3);
            asked("abcabc", x -> x.twice(0), 5, 0, 3);
            asked("abca", x -> x.twice(0), 1, 0, 3);
            asked("dabcdabcbc", x -> x.twice(0), 6, 2, 8);
        });
        Edge.of(27, "of fewer BEADS than all,", () -> {
            asked("aa", x -> x.twice(0), 1, 0, 1);
            asked("abab", x -> x.twice(0), 3, 0, 2);
            asked("aaaaaaaaaa", x -> x.twice(0), 9, 0, 1);
            asked("ababababab", x -> x.twice(0), 9, 0, 2);
        });
        Edge.of(27, "that begins at two BEADS, read around: how long;", () -> {
            asked("babba", x -> x.twice(0), 3, 0, 3);
            asked("bcab", x -> x.twice(0), 1, 0, 3);
            asked("caba", x -> x.twice(0), 1, 1, 3);
            asked("bcdabca", x -> x.twice(0), 3, 3, 6);
        });
        Edge.of(27, "the ROW: the two, the lesser first", () -> {
            asked("dbcb", x -> x.twice(0), 1, 1, 3);
            asked("aaab", x -> x.twice(0), 2, 0, 1);
            asked("abcddddddd", x -> x.twice(0), 6, 3, 4);
        });
        Edge.of(27, "(of as long ones the least row;", () -> {
            asked("bbaa", x -> x.twice(0), 1, 0, 1);
            asked("abbac", x -> x.twice(0), 1, 0, 3);
            asked("abacad", x -> x.twice(0), 1, 0, 2);
            asked("cabdba", x -> x.twice(0), 1, 1, 5);
        });
        Edge.of(27, "nothing for 0).", () -> {
            asked("a", x -> x.twice(0), 0);
            asked("ab", x -> x.twice(0), 0);
            asked("abcd", x -> x.twice(0), 0);
        });
        Edge.of(27, "NONE: none such.", () -> {
            BeadRings x = Due.lived("abca");
            Due.nothingChanges(x, () -> {
                Due.due("1 of one", -1, x.twice(1));
                Due.due("-1", -1, x.twice(-1));
                for (int far : FAR) {
                    Due.due("" + far, -1, x.twice(far));
                }
            });
        });
    }

    private static void promise28() {
        Edge.of(28, "The longest arc of BEADS that is the same read both ways: how long;", () -> {
            asked("a", x -> x.arc(0), 1, 0);
            asked("aa", x -> x.arc(0), 2, 0);
            asked("abcd", x -> x.arc(0), 1, 0);
            asked("abcba", x -> x.arc(0), 5, 0);
            asked("aaaaaaaaaa", x -> x.arc(0), 10, 0);
            asked("abcabcabcd", x -> x.arc(0), 1, 0);
            asked("dabbacdcbd", x -> x.arc(0), 4, 1);
        });
        Edge.of(28, "the ROW: the first BEAD of it", () -> {
            asked("abca", x -> x.arc(0), 2, 3);
            asked("cabba", x -> x.arc(0), 5, 3);
            asked("dabcb", x -> x.arc(0), 3, 2);
            asked("aaacbcddda", x -> x.arc(0), 4, 9);
        });
        Edge.of(28, "(of as long ones the least).", () -> {
            asked("abab", x -> x.arc(0), 3, 0);
            asked("aabb", x -> x.arc(0), 4, 1);
            asked("ab", x -> x.arc(0), 1, 0);
            asked("daabb", x -> x.arc(0), 2, 1);
        });
        Edge.of(28, "NONE: none such.", () -> {
            BeadRings x = Due.lived("abca");
            Due.nothingChanges(x, () -> {
                Due.due("1 of one", -1, x.arc(1));
                Due.due("-1", -1, x.arc(-1));
                for (int far : FAR) {
                    Due.due("" + far, -1, x.arc(far));
                }
            });
        });
    }

    public static void main(String[] args) {
        promise21();
        promise22();
        promise23();
        promise24();
        promise25();
        promise26();
        promise27();
        promise28();
        Edge.allAreQuoted(21, 28);
        Due.end("EdgesTurnedTest");
    }
}
