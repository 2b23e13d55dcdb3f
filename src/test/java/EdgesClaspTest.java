/** Promises 38 to 45, sentence by sentence. */
public final class EdgesClaspTest {
    private static final int[] FAR = {Integer.MIN_VALUE, -1000, 1000, Integer.MAX_VALUE};

    private static void promises38And39() {
        Edge.of(38, "It was felt that BEAD p (0 .. 9) behind the clasp", () -> {
            BeadRings x = Due.stall("abcdddddda");
            x.felt(0, 0);
            Due.due("a at 0", 1 | 512, x.guess(0));
            x.felt(9, 3);
            Due.due("and d at 9", 512, x.guess(0));
            x.forget();
            x.felt(9, 1);
            Due.due("b at 9", 4, x.guess(0));
        });
        Edge.of(38, "(rest by how many there are)", () -> {
            BeadRings x = Due.stall("abca", "abc", "d", "aaaaaaaaab");
            x.felt(9, 1);
            Due.due("9 by 4 is 1", 1, x.guess(0));
            Due.due("9 by 3 is 0", 2, x.guess(1));
            Due.due("9 by 1 is 0", 0, x.guess(2));
            Due.due("9 by 10 is 9", 1, x.guess(3));
            x.forget();
            x.felt(4, 2);
            Due.due("4 by 4 is 0", 4, x.guess(0));
            Due.due("4 by 3 is 1", 2, x.guess(1));
            x.forget();
            for (int p = 0; p < 10; p++) {
                x.felt(p, 3);
            }
            Due.due("each by 1 is 0", 1, x.guess(2));
            Due.due("to feel it again tells nothing", 0, x.feels(2));
        });
        Edge.of(38, "was of a COLOUR: how many such.", () -> {
            BeadRings x = Due.stall("abcd");
            for (int colour = 0; colour < 4; colour++) {
                Due.due("the first one", 1, x.felt(0, colour));
                Due.due("colour " + colour, 1 << colour, x.guess(0));
                Due.due("again the same", 2, x.felt(0, colour));
                Due.due("count(5)", 2, x.count(5));
                x.forget();
            }
        });
        Edge.of(38, "Refused: others, 10.", () -> {
            BeadRings x = Due.lived("abca");
            Due.nothingChanges(x, () -> {
                Due.due("-1", -1, x.felt(-1, 0));
                Due.due("10", -1, x.felt(10, 0));
                Due.due("colour -1", -1, x.felt(0, -1));
                Due.due("colour 4", -1, x.felt(0, 4));
                for (int far : FAR) {
                    Due.due("" + far, -1, x.felt(far, 0));
                    Due.due("colour " + far, -1, x.felt(0, far));
                }
            });
            for (int i = 2; i <= 10; i++) {
                Due.due("up to ten", i, x.felt(1, 1));
            }
            Due.nothingChanges(x, () -> Due.due("an eleventh", -1, x.felt(0, 3)));
            Due.due("it is not felt", 1, x.guess(0));
        });
        Edge.of(39, "It is forgotten: how many there were.", () -> {
            BeadRings x = Due.stall("abca");
            Due.due("none", 0, x.forget());
            for (int i = 0; i < 10; i++) {
                x.felt(i, 3);
            }
            x.many(6, 2);
            Due.due("ten", 10, x.forget());
            Due.row("it tells no ROW", x, 14, 9);
            Due.due("none is left", 0, x.count(5));
            Due.due("none is left", 0, x.forget());
            Due.due("all is as if nothing was felt", 15, x.guess(0));
            Due.due("the first one again", 1, x.felt(0, 0));
        });
    }

    private static void promise40() {
        Edge.of(40, "By which n a BRACELET can have been ROLLED so that all that was felt is so (bits): them;", () -> {
            BeadRings x = Due.stall("abca", "d", "aaaaaaaaaa");
            Due.due("nothing felt", 15, x.guess(0));
            Due.due("nothing felt of one", 1, x.guess(1));
            Due.due("nothing felt of ten", 1023, x.guess(2));
            x.felt(0, 0);
            Due.due("a", 1 | 8, x.guess(0));
            x.felt(1, 0);
            Due.due("aa", 8, x.guess(0));
            x.felt(1, 1);
            Due.due("two at one place", 0, x.guess(0));
            Due.due("none", 0, x.guess(1));
        });
        Edge.of(40, "the ROW: how many, 1 if 0 is one, else 0.", () -> {
            BeadRings x = Due.stall("abca", "aaaaaaaaaa", "b");
            x.guess(1);
            Due.row("ten", x, 10, 1);
            x.felt(0, 0);
            x.guess(0);
            Due.row("0 and 3", x, 2, 1);
            x.felt(1, 0);
            x.guess(0);
            Due.row("3", x, 1, 0);
            x.guess(2);
            Due.row("none", x, 0, 0);
        });
        Edge.of(40, "NONE: none such.", () -> {
            BeadRings x = Due.lived("abca");
            Due.nothingChanges(x, () -> {
                Due.due("1 of one", -1, x.guess(1));
                Due.due("-1", -1, x.guess(-1));
                for (int far : FAR) {
                    Due.due("" + far, -1, x.guess(far));
                }
            });
        });
    }

    /** What is felt is told as places and colours in turn. */
    private static void feels(String bracelet, int want, int left, int... felt) {
        BeadRings x = Due.stall(bracelet);
        for (int i = 0; i + 1 < felt.length; i += 2) {
            x.felt(felt[i], felt[i + 1]);
        }
        x.many(6, 2);
        Due.due("feels of " + bracelet, want, x.feels(0));
        Due.row("feels of " + bracelet, x, left);
    }

    private static void promise41() {
        Edge.of(41, "The BEAD behind the clasp (0 .. as many as it has, less 1) to feel next,", () -> {
            feels("d", 0, 1);
            feels("ab", 0, 1);
            feels("aaaaaaaaab", 8, 1, 0, 0, 1, 0, 2, 0, 3, 0, 4, 0, 5, 0, 6, 0, 7, 0);
            feels("aaab", 2, 1, 0, 0, 1, 0);
        });
        Edge.of(41, "so that, whatever COLOUR it is, the fewest of these are left at most:", () -> {
            feels("abca", 1, 1, 0, 0);
            feels("aabb", 1, 1, 0, 0);
            feels("aaab", 1, 2, 0, 0);
            feels("aabaab", 1, 2, 0, 0);
            feels("abcdabcdab", 2, 2, 0, 0);
        });
        Edge.of(41, "of equal ones the least;", () -> {
            feels("aaa", 0, 3);
            feels("abca", 0, 2);
            feels("abca", 0, 1, 0, 2);
            feels("aaaaaaaaaa", 0, 10);
        });
        Edge.of(41, "the ROW: how many at most.", () -> {
            feels("aaab", 0, 3);
            feels("abcd", 0, 1);
            feels("abab", 0, 2);
            feels("abab", 0, 2, 1, 1);
        });
        Edge.of(41, "-2: none is left;", () -> {
            BeadRings x = Due.lived("aaaa", "abab");
            Due.nothingChanges(x, () -> Due.due("no b", -2, x.feels(0)));
            Due.due("a b", 0, x.feels(1));
        });
        Edge.of(41, "NONE: none such.", () -> {
            BeadRings x = Due.lived("aaaa");
            Due.nothingChanges(x, () -> {
                Due.due("1 of one", -1, x.feels(1));
                Due.due("-1", -1, x.feels(-1));
                for (int far : FAR) {
                    Due.due("" + far, -1, x.feels(far));
                }
            });
        });
    }

    private static final String[] FIVE = {"abab", "abc", "aaaaaaaab", "d", "dddddddddd"};

    /** Which of FIVE fit, if this alone was heard. */
    private static void heard(int what, int v, int want) {
        BeadRings x = new BeadRings();
        x.sheet(2, 4, 99, 0);
        for (String bracelet : FIVE) {
            Due.strings(x, bracelet);
        }
        Due.due("heard(" + what + ", " + v + ")", 1, x.heard(what, v));
        Due.due("heard(" + what + ", " + v + ") then fits", want, x.fits());
    }

    private static void refusedToHear(int... whatsAndNumbers) {
        BeadRings x = Due.lived("abca");
        Due.nothingChanges(x, () -> {
            for (int i = 0; i + 1 < whatsAndNumbers.length; i += 2) {
                Due.due("heard(" + whatsAndNumbers[i] + ", " + whatsAndNumbers[i + 1] + ")", -1, x.heard(whatsAndNumbers[i], whatsAndNumbers[i + 1]));
            }
        });
    }

    private static void promises42And43() {
        Edge.of(42, "It was heard of a BRACELET that, what 0: it has v (1 .. 9) BEADS or more;", () -> {
            heard(0, 1, 31);
            heard(0, 3, 1 | 2 | 4 | 16);
            heard(0, 4, 1 | 4 | 16);
            heard(0, 5, 4 | 16);
            heard(0, 9, 4 | 16);
            refusedToHear(0, 0, 0, 10, 0, -1);
        });
        Edge.of(42, "1: it has COLOUR v (0 .. 3);", () -> {
            heard(1, 0, 7);
            heard(1, 1, 7);
            heard(1, 2, 2);
            heard(1, 3, 8 | 16);
            refusedToHear(1, -1, 1, 4);
        });
        Edge.of(42, "2: t (as in THE RULE) is v (1 .. 9);", () -> {
            heard(2, 1, 8 | 16);
            heard(2, 2, 1);
            heard(2, 3, 2);
            heard(2, 4, 0);
            heard(2, 9, 4);
            refusedToHear(2, 0, 2, 10);
        });
        Edge.of(42, "3: it has no fewer than v (1 .. 9) BEADS of one COLOUR:", () -> {
            heard(3, 1, 31);
            heard(3, 2, 1 | 4 | 16);
            heard(3, 3, 4 | 16);
            heard(3, 8, 4 | 16);
            heard(3, 9, 16);
            refusedToHear(3, 0, 3, 10);
        });
        Edge.of(42, "how many such.", () -> {
            BeadRings x = Due.stall("abca");
            for (int i = 1; i <= 12; i++) {
                Due.due("such", i, x.heard(0, 4));
                Due.due("count(6)", i, x.count(6));
            }
        });
        Edge.of(42, "Refused: others, 12.", () -> {
            refusedToHear(-1, 1, 4, 1, Integer.MIN_VALUE, 1, Integer.MAX_VALUE, 1, 0, Integer.MIN_VALUE, 1, Integer.MAX_VALUE, 2, Integer.MIN_VALUE, 3, 1000);
            BeadRings x = Due.lived("abca");
            for (int i = 2; i <= 12; i++) {
                Due.due("up to twelve", i, x.heard(0, 1));
            }
            Due.nothingChanges(x, () -> Due.due("a thirteenth", -1, x.heard(0, 9)));
            Due.due("it is not heard", 1, x.fits());
        });
        Edge.of(43, "It is denied: how many there were.", () -> {
            BeadRings x = Due.stall("abca");
            Due.due("none", 0, x.denies());
            for (int i = 0; i < 12; i++) {
                x.heard(0, 9);
            }
            x.many(6, 2);
            Due.due("twelve", 12, x.denies());
            Due.row("it tells no ROW", x, 14, 9);
            Due.due("none is left", 0, x.count(6));
            Due.due("none is left", 0, x.denies());
            Due.due("all is as if nothing was heard", 1, x.fits());
            Due.due("the first one again", 1, x.heard(0, 9));
        });
    }

    private static void promise44() {
        Edge.of(44, "BRACELETS (bits) that fit all that was heard;", () -> {
            Due.due("without bracelets", 0, new BeadRings().fits());
            BeadRings x = Due.stall("abab", "abc", "aab", "d", "bbb");
            Due.due("nothing heard", 31, x.fits());
            x.heard(1, 1);
            Due.due("b", 1 | 2 | 4 | 16, x.fits());
            x.heard(1, 0);
            Due.due("b and a", 1 | 2 | 4, x.fits());
            x.heard(3, 2);
            Due.due("and two of one", 1 | 4, x.fits());
            x.heard(2, 3);
            Due.due("and t 3", 4, x.fits());
            x.heard(0, 4);
            Due.due("none", 0, x.fits());
            x.denies();
            x.heard(1, 1);
            x.parts(0);
            Due.due("by their numbers then", 1 | 2 | 8, x.fits());
        });
        Edge.of(44, "the ROW: how many.", () -> {
            BeadRings x = Due.stall("abab", "abc", "aab", "d", "bbb");
            x.fits();
            Due.row("five", x, 5);
            x.heard(1, 3);
            x.fits();
            Due.row("one", x, 1);
            x.heard(1, 0);
            x.fits();
            Due.row("none", x, 0);
            BeadRings y = new BeadRings();
            y.fits();
            Due.row("without bracelets", y, 0);
        });
    }

    private static void asks(int want, int left, String... bracelets) {
        BeadRings x = new BeadRings();
        x.sheet(2, 4, 99, 0);
        for (String bracelet : bracelets) {
            Due.strings(x, bracelet);
        }
        x.many(6, 2);
        Due.due("asks of " + String.join(" ", bracelets), want, x.asks());
        Due.row("asks of " + String.join(" ", bracelets), x, left);
    }

    private static void promise45() {
        Edge.of(45, "What to ask next, so that, it is so or not, the fewest such BRACELETS are left at most:", () -> {
            asks(4, 2, "ab", "bcd", "abcd", "aabb");
            asks(3, 3, "a", "ab", "abc", "abcd", "abcda");
            asks(11, 2, "aab", "abb", "aaa");
            BeadRings x = Due.stall("ab", "bcd", "abcd", "aabb", "aabc");
            x.heard(0, 4);
            Due.due("of the three with four", 12, x.asks());
            Due.row("of the three with four", x, 2);
        });
        Edge.of(45, "10 times what and v, as they may be heard,", () -> {
            asks(2, 1, "a", "aa");
            asks(9, 1, "aaaaaaaa", "aaaaaaaaa");
            asks(10, 1, "abb", "bbb");
            asks(13, 1, "abca", "abcd");
            asks(22, 1, "abab", "aabb");
            asks(34, 1, "aaaabb", "aaabbb");
            asks(39, 1, "aaaaaaaabb", "aaaaaaaaab");
            // Nine beads and ten can't be told apart by what may be heard of beads, of colours or of t.
            asks(1, 2, "aaaaaaaaa", "aaaaaaaaaa");
        });
        Edge.of(45, "of equal ones the least;", () -> {
            asks(1, 1, "abca");
            asks(1, 2, "abca", "abca");
            asks(1, 5, "a", "a", "a", "a", "a");
            asks(2, 1, "a", "bcd");
            asks(10, 1, "aab", "ccd");
        });
        Edge.of(45, "the ROW: how many at most.", () -> {
            asks(1, 1, "d");
            asks(2, 2, "a", "aa", "aaa");
            asks(2, 4, "a", "aa", "aa", "aa", "aa");
        });
        Edge.of(45, "-2: none fits.", () -> {
            Due.due("without bracelets", -2, new BeadRings().asks());
            BeadRings x = Due.lived("abca");
            x.heard(1, 3);
            Due.nothingChanges(x, () -> Due.due("no d", -2, x.asks()));
        });
    }

    public static void main(String[] args) {
        promises38And39();
        promise40();
        promise41();
        promises42And43();
        promise44();
        promise45();
        Edge.allAreQuoted(38, 45);
        Due.end("EdgesClaspTest");
    }
}
