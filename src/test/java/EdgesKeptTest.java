/** Promises 50 to 53, sentence by sentence. */
public final class EdgesKeptTest {
    private static final int[] FAR = {Integer.MIN_VALUE, -1000, 1000, Integer.MAX_VALUE};

    private static void promise50() {
        Edge.of(50, "What undo() brings back is kept under a number 0 .. 2: true.", () -> {
            BeadRings x = Due.stall("abcd");
            Due.due("keep(0)", true, x.keep(0));
            x.sells(0);
            Due.due("keep(1)", true, x.keep(1));
            x.buys(3, 4);
            Due.due("keep(2)", true, x.keep(2));
            Due.due("it is none that can be undone", 3, x.count(7));
            Due.nothingChanges(x, () -> x.keep(2));
            x.buys(3, 4);
            x.again(0);
            Due.beads("0: bracelets", x, "abcd");
            Due.stock("0: stock", x, 11, 11, 11, 11);
            Due.due("0: purse", 0, x.count(3));
            x.again(2);
            Due.stock("2: stock", x, 11, 11, 11, 15);
            Due.due("2: purse", 8, x.count(3));
            x.again(1);
            Due.stock("1: stock", x, 11, 11, 11, 11);
            Due.due("1: purse", 12, x.count(3));
            Due.due("1: bracelets", 0, x.count(0));
            Due.strings(x, "dd");
            x.keep(0);
            x.again(1);
            x.again(0);
            Due.beads("kept anew", x, "dd");
        });
        Edge.of(50, "What undo() brings back is kept under a number 0 .. 2: true.", () -> {
            BeadRings x = Due.stall("abcd", "aab", "c", "abca", "ddab");
            x.keep(0);
            Due.day(x, "r01f1t20ax30c43s0ba9");
            x.again(0);
            Due.beads("each of five", x, "abcd", "aab", "c", "abca", "ddab");
            Due.stock("of each colour", x, 6, 8, 9, 9);
            Due.due("purse", 0, x.count(3));
        });
        Edge.of(50, "Refused: others.", () -> {
            BeadRings x = Due.lived("abca");
            Due.nothingChanges(x, () -> {
                Due.due("-1", false, x.keep(-1));
                Due.due("3", false, x.keep(3));
                for (int far : FAR) {
                    Due.due("" + far, false, x.keep(far));
                }
                for (int i = 0; i < 3; i++) {
                    Due.due("nothing is kept", false, x.again(i));
                }
            });
        });
    }

    private static void promise51() {
        Edge.of(51, "It is as it was kept under a number.", () -> {
            BeadRings x = Due.lived("abca", "d");
            String before = Due.state(x);
            x.keep(2);
            x.rolls(0, 1);
            x.parts(1);
            x.buys(0, 3);
            x.sheet(3, 0, 0, 0);
            Due.due("again", true, x.again(2));
            Due.due("but for what can be undone", before.replaceFirst("1 1 4", "1 1 0"), Due.state(x));
            x.flips(0);
            x.again(2);
            Due.beads("once more", x, "abca", "d");
            Due.row("the ROW stays", x, 14, 9);
            Due.due("THE TEXT stays", 4, x.count(9));
            Due.rule(x, "7");
            x.felt(0, 0);
            x.denies();
            x.again(2);
            Due.due("THE RULE stays", 14, x.count(4));
            Due.due("what was felt stays", 2, x.count(5));
            Due.due("what was heard stays", 0, x.count(6));
        });
        Edge.of(51, "Refused: nothing kept.", () -> {
            BeadRings x = Due.lived("abca");
            x.keep(1);
            x.flips(0);
            Due.nothingChanges(x, () -> {
                Due.due("0", false, x.again(0));
                Due.due("2", false, x.again(2));
                Due.due("-1", false, x.again(-1));
                Due.due("3", false, x.again(3));
                for (int far : FAR) {
                    Due.due("" + far, false, x.again(far));
                }
            });
            Due.due("1", true, x.again(1));
        });
    }

    private static void promise52() {
        Edge.of(52, "What 0: BRACELETS,", () -> {
            Due.due("none", 0, new BeadRings().count(0));
            Due.due("five", 5, Due.stall("a", "b", "c", "d", "a").count(0));
        });
        Edge.of(52, "1: BEADS of all,", () -> {
            Due.due("none", 0, new BeadRings().count(1));
            BeadRings x = Due.stall("a", "abcdabcdab");
            Due.due("eleven", 11, x.count(1));
            x.parts(1);
            Due.due("one", 1, x.count(1));
            BeadRings y = new BeadRings();
            y.sheet(2, 4, 99, 0);
            for (int i = 0; i < 5; i++) {
                Due.strings(y, "abcdabcdab");
            }
            Due.due("fifty", 50, y.count(1));
        });
        Edge.of(52, "2: STOCK of all COLOURS,", () -> {
            BeadRings x = new BeadRings();
            Due.due("at first", 48, x.count(2));
            x.sheet(2, 4, 99, 0);
            Due.due("at most", 396, x.count(2));
            x.sheet(3, 0, 0, 0);
            Due.due("none", 0, x.count(2));
        });
        Edge.of(52, "3: PURSE,", () -> {
            BeadRings x = Due.stall("abca");
            Due.due("at first", 0, x.count(3));
            x.sells(0);
            Due.due("sold", 10, x.count(3));
            x.buys(0, 9);
            Due.due("bought", 1, x.count(3));
        });
        Edge.of(52, "4: PRICES of all,", () -> {
            Due.due("none", 0, new BeadRings().count(4));
            BeadRings x = Due.stall("abca", "caab", "d", "d", "d");
            Due.due("n+c*2", 29, x.count(4));
            Due.rule(x, "h");
            Due.due("h", 8, x.count(4));
            Due.rule(x, "999");
            Due.due("each is put to 99", 495, x.count(4));
        });
        Edge.of(52, "5: what was felt,", () -> {
            BeadRings x = new BeadRings();
            for (int i = 0; i <= 10; i++) {
                Due.due("felt", i, x.count(5));
                x.felt(0, 0);
            }
            Due.due("no more than ten", 10, x.count(5));
        });
        Edge.of(52, "6: what was heard,", () -> {
            BeadRings x = new BeadRings();
            for (int i = 0; i <= 12; i++) {
                Due.due("heard", i, x.count(6));
                x.heard(0, 1);
            }
            Due.due("no more than twelve", 12, x.count(6));
        });
        Edge.of(52, "7: what can be undone,", () -> {
            BeadRings x = Due.stall("abcd");
            for (int i = 1; i <= 15; i++) {
                Due.due("undone", i, x.count(7));
                x.flips(0);
            }
            Due.due("no more than fifteen", 15, x.count(7));
            x.undo();
            Due.due("one less", 14, x.count(7));
        });
        Edge.of(52, "8: numbers of the ROW,", () -> {
            BeadRings x = new BeadRings();
            Due.due("at first", 0, x.count(8));
            x.once(2, 4);
            Due.due("at most", 16, x.count(8));
            x.ring(0);
            Due.due("nothing", 0, x.count(8));
        });
        Edge.of(52, "9: signs of THE TEXT.", () -> {
            BeadRings x = new BeadRings();
            for (int n = 0; n <= 80; n += 4) {
                Due.due("signs", n, x.count(9));
                x.sign(0);
            }
            Due.due("no more than 80", 80, x.count(9));
            x.end(79);
            Due.due("ended", 79, x.count(9));
            x.strings();
            Due.due("read", 0, x.count(9));
        });
        Edge.of(52, "-100 for another what.", () -> {
            BeadRings x = Due.lived("abca");
            Due.nothingChanges(x, () -> {
                Due.due("10", -100, x.count(10));
                Due.due("-1", -100, x.count(-1));
                for (int far : FAR) {
                    Due.due("" + far, -100, x.count(far));
                }
            });
        });
    }

    private static void promise53() {
        Edge.of(53, "Number i of the ROW.", () -> {
            BeadRings x = new BeadRings();
            x.once(4, 2);
            long[] want = {0, 0, 1, 0, 2, 0, 3, 1, 1, 2, 1, 3, 2, 2, 3, 3};
            for (int i = 0; i < 16; i++) {
                Due.due("row(" + i + ")", want[i], x.row(i));
            }
            x.many(10, 4);
            Due.due("a great one", 104968, x.row(0));
            Due.due("a great one", 104754, x.row(1));
        });
        Edge.of(53, "NoSuchElementException: none such.", () -> {
            BeadRings x = Due.lived("abca");
            Due.nothingChanges(x, () -> {
                Due.throwsNone("-1", () -> x.row(-1));
                Due.throwsNone("2 of two", () -> x.row(2));
                for (int far : FAR) {
                    Due.throwsNone("" + far, () -> x.row(far));
                }
            });
            Due.throwsNone("at first", () -> new BeadRings().row(0));
            x.once(2, 4);
            Due.throwsNone("16 of sixteen", () -> x.row(16));
            x.ring(0);
            Due.throwsNone("0 of nothing", () -> x.row(0));
            x.many(1, 1);
            Due.throwsNone("one that a longer ROW had", () -> x.row(2));
        });
    }

    public static void main(String[] args) {
        promise50();
        promise51();
        promise52();
        promise53();
        Edge.allAreQuoted(50, 53);
        Due.end("EdgesKeptTest");
    }
}
