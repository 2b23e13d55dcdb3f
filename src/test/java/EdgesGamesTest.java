/** Promises 46 to 49, sentence by sentence. */
public final class EdgesGamesTest {
    private static final int[] FAR = {Integer.MIN_VALUE, -1000, 1000, Integer.MAX_VALUE};

    private static void promise46() {
        Edge.of(46, "Two take by turns out of a ring of n (0 .. 40) beads one, or two that are beside each other", () -> {
            BeadRings x = new BeadRings();
            Due.due("the only one", 1, x.ring(1));
            Due.due("two that are beside each other", 1, x.ring(2));
            Due.due("not three", 0, x.ring(3));
            Due.due("40", 0, x.ring(40));
        });
        Edge.of(46, "(others stay where they are, none closes up);", () -> {
            // Would they close up, 4 and 5 (and all that 3 does not divide) were won by the first one.
            BeadRings x = new BeadRings();
            for (int n = 3; n <= 40; n++) {
                Due.due("ring(" + n + ")", 0, x.ring(n));
            }
        });
        Edge.of(46, "who takes the last one has won: 1 if the first one wins by best play, else 0;", () -> {
            BeadRings x = new BeadRings();
            Due.due("nothing to take", 0, x.ring(0));
            Due.due("the last one", 1, x.ring(1));
            Due.due("both", 1, x.ring(2));
        });
        Edge.of(46, "the ROW: how many to take first (1 or 2: the least by which he does;", () -> {
            BeadRings x = new BeadRings();
            x.ring(1);
            Due.row("one", x, 1);
            x.ring(2);
            Due.row("two, as by one he does not", x, 2);
        });
        Edge.of(46, "nothing without).", () -> {
            BeadRings x = new BeadRings();
            int[] lost = {0, 3, 4, 40};
            for (int n : lost) {
                x.ring(2);
                x.ring(n);
                Due.row("ring(" + n + ")", x);
            }
        });
        Edge.of(46, "NONE: another n.", () -> {
            BeadRings x = Due.lived("abca");
            Due.nothingChanges(x, () -> {
                Due.due("-1", -1, x.ring(-1));
                Due.due("41", -1, x.ring(41));
                for (int far : FAR) {
                    Due.due("" + far, -1, x.ring(far));
                }
            });
        });
    }

    private static void promise47() {
        Edge.of(47, "THE TEXT is another RULE", () -> {
            BeadRings x = Due.stall("abca", "abab", "d");
            Due.due("n", 9 - 21, Due.law(x, "n"));
            Due.due("THE TEXT is read", 0, x.count(9));
            Due.due("THE RULE stays", 21, x.count(4));
            Due.rule(x, "n");
            Due.due("n*n", 33 - 9, Due.law(x, "n*n"));
            Due.due("THE RULE stays", 9, x.count(4));
            Due.due("of 40 signs", 3 - 9, Due.law(x, "-".repeat(38) + "01"));
            String[] laws = {"12", "33-1", "1234", "20", "(1", "21", "1<2<3", "1<2", "", "7"};
            int[] want = {36 - 9, 96 - 9, -10003, 60 - 9, -10002, 63 - 9, -10003, 3 - 9, 21 - 9, 21 - 9};
            for (int i = 0; i < laws.length; i++) {
                Due.due("one behind another, " + laws[i], want[i], Due.law(x, laws[i]));
            }
        });
        Edge.of(47, "(an empty one: none):", () -> {
            BeadRings x = Due.stall("abca", "abab", "d");
            Due.due("none by none", 0, Due.law(x, ""));
            Due.row("none by none", x, 21, 21);
            Due.rule(x, "1");
            Due.due("none by 1", 18, Due.law(x, ""));
            Due.row("none by 1", x, 21, 3);
            Due.due("THE RULE stays", 3, x.count(4));
        });
        Edge.of(47, "PRICES of all BRACELETS by it, less by THE RULE (below 0, too);", () -> {
            BeadRings x = Due.stall("abca", "caab", "d", "d", "d");
            Due.due("h: each by the others", 8 - 29, Due.law(x, "h"));
            Due.due("nothing", -29, Due.law(x, "0"));
            Due.due("put to 0 each", -29, Due.law(x, "0-n"));
            Due.due("put to 99 each", 495 - 29, Due.law(x, "999"));
            Due.due("put to 99 one by one", 99 + 99 + 3 * 40 - 29, Due.law(x, "n*40"));
            Due.due("without bracelets", 0, Due.law(new BeadRings(), "n"));
        });
        Edge.of(47, "the ROW: both.", () -> {
            BeadRings x = Due.stall("abca", "d");
            x.many(6, 2);
            Due.law(x, "n");
            Due.row("by it, by THE RULE", x, 5, 13);
            BeadRings y = new BeadRings();
            y.many(6, 2);
            Due.law(y, "n");
            Due.row("without bracelets", y, 0, 0);
        });
        Edge.of(47, "-10000 - p: the sign at p can't stand there (as rule()).", () -> {
            BeadRings x = Due.lived("abca");
            Due.rule(x, "n*7");
            String thirtyNine = "n+".repeat(19) + "n";
            String[] texts = {"?", "+n", "nn", "1<2<3", "1234", "(((((n", "n+", "(n", "-", "n+".repeat(20), thirtyNine + "+n", "-" + thirtyNine + "?",
                thirtyNine + "n+n"};
            int[] want = {0, 0, 1, 3, 3, 4, 2, 2, 1, 40, 40, 40, 39};
            Due.onlyTextIsEmptied(x, () -> {
                for (int i = 0; i < want.length; i++) {
                    Due.due("law " + texts[i], -10000 - want[i], Due.law(x, texts[i]));
                }
            });
            Due.due("THE RULE stays", 28, x.count(4));
        });
    }

    private static void promise48() {
        Edge.of(48, "Two ask for x and y (0 .. 9) of a bracelet that is worth v (0 .. 18):", () -> {
            BeadRings x = new BeadRings();
            Due.due("v 0: 0 and 0 .. 9 and 9", 10, x.bargains(0));
            Due.due("v 17: 8 and 9, 9 and 8", 2, x.bargains(17));
            Due.due("v 18: 8 and 8, 9 and 9", 2, x.bargains(18));
            Due.due("v 10: 1 and 9 .. 9 and 1", 9, x.bargains(10));
        });
        Edge.of(48, "if both together are v or less, each has what it asks for, and half of what is left (cut);", () -> {
            // 8 and 8 of 18: each has 8 and 1; by 9 it has 9 and 0, as half of 1 is cut: no more.
            BeadRings x = new BeadRings();
            x.bargains(18);
            Due.row("8 and 8", x, 8, 8);
            x.bargains(17);
            Due.row("8 and 8 of 17 are not: by 9 one has 9", x, 8, 9);
            x.bargains(16);
            Due.row("7 and 9", x, 7, 9);
        });
        Edge.of(48, "else neither has anything, and who asks for more pays 2.", () -> {
            // Beside those that are v together, x and x of v or more rest: another one has nothing, or pays.
            // That it pays can be seen (else more pairs would rest); how much can't: by 1 or 3 the same ones would.
            BeadRings x = new BeadRings();
            for (int v = 1; v <= 9; v++) {
                Due.due("bargains(" + v + ")", v + 1 + 10 - v, x.bargains(v));
            }
        });
        Edge.of(48, "Pairs by which neither would have more by another number alone: how many;", () -> {
            BeadRings x = new BeadRings();
            for (int v = 10; v <= 17; v++) {
                Due.due("bargains(" + v + "): those that are v together", 19 - v, x.bargains(v));
            }
        });
        Edge.of(48, "the ROW: the least", () -> {
            BeadRings x = new BeadRings();
            for (int v = 0; v <= 17; v++) {
                x.bargains(v);
                Due.row("bargains(" + v + ")", x, v < 10 ? 0 : v - 9, v < 10 ? v : 9);
            }
        });
        Edge.of(48, "(nothing without).", () -> {
            // There is none without: a pair that is v together rests, and there is one for each v.
            BeadRings x = new BeadRings();
            for (int v = 0; v <= 18; v++) {
                Due.due("bargains(" + v + ") has one", true, x.bargains(v) > 0);
                Due.due("bargains(" + v + ") tells it", 2, x.count(8));
            }
        });
        Edge.of(48, "NONE: another v.", () -> {
            BeadRings x = Due.lived("abca");
            Due.nothingChanges(x, () -> {
                Due.due("-1", -1, x.bargains(-1));
                Due.due("19", -1, x.bargains(19));
                for (int far : FAR) {
                    Due.due("" + far, -1, x.bargains(far));
                }
            });
        });
    }

    private static long drawn;

    private static int draw(int n) {
        drawn = (drawn * 1103515245L + 12345L) & 0xFFFFFFFFL;
        return (int) (drawn / 65536 % n);
    }

    /** The least seed by which years are drawn so: of each the act, the bracelet, the number. */
    private static int seed(int bracelets, int... years) {
        for (int seed = 0; seed < 10000000; seed++) {
            drawn = seed;
            boolean isSo = true;
            for (int i = 0; isSo && i < years.length; i += 3) {
                isSo = draw(4) == years[i] && draw(bracelets) == years[i + 1] && draw(10) == years[i + 2];
            }
            if (isSo) {
                return seed;
            }
        }
        throw new IllegalStateException("no such seed");
    }

    private static void years(BeadRings x, int[] years, int beads, long kinds, long stock) {
        int seed = seed(x.count(0), years);
        Due.due("years(" + seed + ", " + years.length / 3 + ")", beads, x.years(seed, years.length / 3));
        Due.row("years(" + seed + ", " + years.length / 3 + ")", x, kinds, stock);
    }

    private static void promise49Acts() {
        Edge.of(49, "0: it is ROLLED by it;", () -> {
            // Rolled by 1, ab is ba, and its first one is cut: a. Else it is b.
            years(Due.stall("ab", "a"), new int[] {0, 0, 1, 3, 0, 0}, 2, 1, 46);
            years(Due.stall("ab", "a"), new int[] {0, 0, 9, 3, 0, 0}, 2, 1, 46);
            years(Due.stall("ab", "a"), new int[] {0, 0, 0, 3, 0, 0}, 2, 2, 46);
            years(Due.stall("ab", "a"), new int[] {0, 0, 8, 3, 0, 0}, 2, 2, 46);
        });
        Edge.of(49, "1: swaps() at it (rest by how many BEADS there are);", () -> {
            years(Due.stall("abcd", "acbd"), new int[] {1, 0, 1}, 8, 1, 40);
            years(Due.stall("abcd", "acbd"), new int[] {1, 0, 5}, 8, 1, 40);
            years(Due.stall("abcd", "acbd"), new int[] {1, 0, 9}, 8, 1, 40);
            years(Due.stall("abcd", "dbca"), new int[] {1, 0, 7}, 8, 1, 40);
            years(Due.stall("abcd", "abcd"), new int[] {1, 0, 0}, 8, 2, 40);
            years(Due.stall("abcda", "abcda"), new int[] {1, 0, 9}, 10, 1, 38);
        });
        Edge.of(49, "2: threads() ahead of BEAD 0 of the COLOUR that is the number by 4 (rest);", () -> {
            for (int number = 0; number < 10; number++) {
                String want = "abcd".charAt(number % 4) + "aab";
                years(Due.stall("aab", want), new int[] {2, 0, number}, 8, 1, 40);
            }
            years(Due.stall("aab", "acab"), new int[] {2, 0, 2}, 8, 2, 40);
            // The one that was threaded is BEAD 0 then, and is cut again.
            years(Due.stall("ab", "ab"), new int[] {2, 0, 2, 3, 0, 0}, 4, 1, 44);
            years(Due.stall("ab", "ca"), new int[] {2, 0, 2, 3, 0, 2}, 4, 1, 44);
        });
        Edge.of(49, "3: cuts() at it (rest likewise)", () -> {
            String[] left = {"bcda", "acda", "abda", "abca", "abcd"};
            for (int number = 0; number < 10; number++) {
                years(Due.stall("abcda", left[number % 5]), new int[] {3, 0, number}, 8, 1, 40);
            }
            years(Due.stall("abcd", "abd"), new int[] {3, 0, 6}, 6, 1, 42);
            years(Due.stall("abcd", "abd"), new int[] {3, 0, 7}, 6, 2, 42);
        });
        Edge.of(49, "(each if it can be):", () -> {
            years(Due.stall("a"), new int[] {3, 0, 3}, 1, 1, 47);
            years(Due.stall("aab", "aab"), new int[] {1, 0, 3}, 6, 1, 42);
            years(Due.stall("abcdabcdab"), new int[] {2, 0, 3}, 10, 1, 38);
            BeadRings x = Due.stall("abc");
            x.sheet(2, 3, 12, 0);
            years(x, new int[] {2, 0, 3}, 3, 1, 36);
            years(x, new int[] {2, 0, 7, 2, 0, 1}, 4, 1, 35);
            BeadRings y = Due.stall("ab");
            y.sheet(2, 4, 99, 0);
            years(y, new int[] {3, 0, 0, 3, 0, 0}, 1, 1, 396);
        });
    }

    private static void promise49() {
        Edge.of(49, "n times (1 .. 60):", () -> {
            BeadRings x = Due.stall("ab");
            years(x, new int[] {2, 0, 0}, 3, 1, 45);
            years(x, new int[] {2, 0, 0, 2, 0, 0}, 4, 1, 44);
            int last = lastThreads();
            Due.due("the sixtieth is one", x.years(last, 59) + 1, x.years(last, 60));
        });
        Edge.of(49, "a DRAW of 4, without BRACELETS nothing more;", () -> {
            // How many draws such a year has changes no answer: no bracelet comes in later years.
            BeadRings x = new BeadRings();
            for (int seed = -5; seed < 5; seed++) {
                Due.due("years", 0, x.years(seed, 60));
                Due.row("years", x, 0, 48);
            }
        });
        Edge.of(49, "a DRAW of BRACELETS tells which, a DRAW of 10 a number:", () -> {
            // Of these only the one with three beads can be cut.
            for (int b = 0; b < 5; b++) {
                String[] five = {"a", "b", "c", "d", "a"};
                five[b] = "bca";
                years(Due.stall(five), new int[] {3, b, 0}, 6, b == 0 || b == 4 ? 5 : 4, 42);
                years(Due.stall(five), new int[] {3, (b + 1) % 5, 0}, 7, b == 0 || b == 4 ? 5 : 4, 41);
            }
            for (int number = 0; number < 10; number++) {
                String without = new StringBuilder("abcddcabda").deleteCharAt(number).toString();
                years(Due.stall("abcddcabda", without), new int[] {3, 0, number}, 18, 1, 30);
            }
        });
        promise49Acts();
        Edge.of(49, "BEADS of all then;", () -> {
            years(Due.stall("ab", "abcd"), new int[] {2, 1, 0}, 7, 2, 41);
            years(Due.stall("ab", "abcd"), new int[] {3, 1, 0}, 5, 2, 43);
            years(Due.stall("ab", "abcd"), new int[] {0, 1, 3}, 6, 2, 42);
            BeadRings x = Due.lived("ab", "abcd");
            Due.onlyTextAndRowChange(x, () -> x.years(7, 60));
        });
        Edge.of(49, "the ROW: how many KINDS there are then, STOCK of all COLOURS then.", () -> {
            years(Due.stall("ab", "abcd", "ba"), new int[] {0, 1, 1}, 8, 2, 40);
            years(Due.stall("ab", "abcd", "ba"), new int[] {2, 0, 0}, 9, 3, 39);
            years(Due.stall("ab", "abcd", "ba"), new int[] {3, 0, 0}, 7, 3, 41);
            years(Due.stall("a", "ab"), new int[] {3, 1, 1}, 2, 1, 46);
        });
        Edge.of(49, "NONE: another n.", () -> {
            BeadRings x = Due.lived("abca");
            Due.nothingChanges(x, () -> {
                Due.due("none", -1, x.years(1, 0));
                Due.due("61", -1, x.years(1, 61));
                Due.due("-1", -1, x.years(1, -1));
                for (int far : FAR) {
                    Due.due("" + far, -1, x.years(1, far));
                }
            });
        });
        Edge.of(49, "A DRAW of n: R = R times 1103515245 + 12345 (as ints; R is seed at first), (R without sign, by 65536) % n.", () -> {
            int[] seeds = {0, 1, -1, Integer.MAX_VALUE, Integer.MIN_VALUE, 12345, -12345, 1 << 30, 65536, -65536};
            for (int seed : seeds) {
                BeadRings x = Due.stall("abca", "d", "abab");
                PlainRings y = new PlainRings();
                for (String bracelet : new String[] {"abca", "d", "abab"}) {
                    y.text = bracelet;
                    y.strings();
                }
                for (int n = 1; n <= 60; n += 8) {
                    Due.due("years(" + seed + ", " + n + ")", y.years(seed, n), x.years(seed, n));
                    Due.row("years(" + seed + ", " + n + ")", x, y.row(0), y.row(1));
                }
            }
        });
    }

    /** A seed by which the sixtieth year threads a bead (there is one bracelet, of two beads at first). */
    private static int lastThreads() {
        for (int seed = 0; seed < 1000000; seed++) {
            drawn = seed;
            int beads = 2;
            boolean isLast = false;
            for (int year = 0; year < 60; year++) {
                int act = draw(4);
                draw(1);
                draw(10);
                isLast = act == 2 && beads < 10;
                beads += isLast ? 1 : act == 3 && beads > 1 ? -1 : 0;
            }
            if (isLast) {
                return seed;
            }
        }
        throw new IllegalStateException("no such seed");
    }

    public static void main(String[] args) {
        promise46();
        promise47();
        promise48();
        promise49();
        Edge.allAreQuoted(46, 49);
        Due.end("EdgesGamesTest");
    }
}
