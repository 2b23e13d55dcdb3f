/** Promises 10 to 20, sentence by sentence. */
public final class EdgesDoneTest {
    private static final int[] FAR = {Integer.MIN_VALUE, -1000, 1000, Integer.MAX_VALUE};

    private static void promises10And11() {
        Edge.of(10, "A BRACELET is ROLLED by n (0 .. 99):", () -> {
            BeadRings x = Due.stall("abcd", "abc", "d", "abcdabcdaa");
            x.rolls(0, 0);
            x.rolls(1, 99);
            x.rolls(2, 99);
            x.rolls(3, 99);
            Due.beads("by 0 and by 99", x, "abcd", "abc", "d", "aabcdabcda");
            x.rolls(0, 98);
            x.rolls(1, 1);
            x.rolls(2, 1);
            x.rolls(3, 10);
            Due.beads("by 98, 1, 10", x, "cdab", "bca", "d", "aabcdabcda");
            Due.due("each can be undone, by 0 too", 12, x.count(7));
            Due.stock("no bead is used", x, 6, 8, 8, 8);
        });
        Edge.of(10, "COLOUR of its first BEAD then.", () -> {
            BeadRings x = Due.stall("abcd", "c");
            int[] want = {0, 1, 2, 3};
            for (int n = 0; n < 4; n++) {
                Due.due("by " + n, want[n], x.rolls(0, n));
                x.undo();
            }
            Due.due("by 99", 3, x.rolls(0, 99));
            Due.due("of one bead", 2, x.rolls(1, 1));
        });
        Edge.of(10, "NONE: others.", () -> {
            BeadRings x = Due.lived("abcd", "c");
            Due.nothingChanges(x, () -> {
                Due.due("by -1", -1, x.rolls(0, -1));
                Due.due("by 100", -1, x.rolls(0, 100));
                Due.due("bracelet 2 of two", -1, x.rolls(2, 1));
                Due.due("bracelet -1", -1, x.rolls(-1, 1));
                for (int far : FAR) {
                    Due.due("by " + far, -1, x.rolls(0, far));
                    Due.due("bracelet " + far, -1, x.rolls(far, 1));
                }
            });
        });
        Edge.of(11, "A BRACELET is FLIPPED: COLOUR of its first BEAD then.", () -> {
            BeadRings x = Due.stall("abcd", "c", "abcdabcdaa");
            Due.due("abcd", 3, x.flips(0));
            Due.due("one bead", 2, x.flips(1));
            Due.due("ten", 0, x.flips(2));
            Due.beads("flipped", x, "dcba", "c", "aadcbadcba");
            Due.due("back", 0, x.flips(0));
            Due.beads("flipped", x, "abcd", "c", "aadcbadcba");
            Due.due("each can be undone", 7, x.count(7));
        });
        Edge.of(11, "NONE: none such.", () -> {
            BeadRings x = Due.lived("abcd", "c");
            Due.nothingChanges(x, () -> {
                Due.due("bracelet 2 of two", -1, x.flips(2));
                Due.due("bracelet -1", -1, x.flips(-1));
                for (int far : FAR) {
                    Due.due("bracelet " + far, -1, x.flips(far));
                }
            });
            Due.due("without bracelets", -1, new BeadRings().flips(0));
        });
    }

    private static void promise12() {
        Edge.of(12, "A BEAD and the one behind it", () -> {
            BeadRings x = Due.stall("abcd", "abcdabcdab");
            x.swaps(0, 0);
            x.swaps(1, 8);
            Due.beads("the first, the last but one", x, "bacd", "abcdabcdba");
            x.swaps(0, 2);
            Due.beads("the last but one", x, "badc", "abcdabcdba");
        });
        Edge.of(12, "(behind the last one: 0)", () -> {
            BeadRings x = Due.stall("abcd", "ab", "dbbbbbbbba");
            x.swaps(0, 3);
            x.swaps(1, 1);
            x.swaps(2, 9);
            Due.beads("the last ones", x, "dbca", "ba", "abbbbbbbbd");
        });
        Edge.of(12, "change places:", () -> {
            BeadRings x = Due.stall("ab", "dac");
            x.swaps(0, 0);
            x.swaps(1, 1);
            Due.beads("the others stay", x, "ba", "dca");
            Due.stock("no bead is used", x, 10, 11, 11, 11);
            Due.due("they can be undone", 4, x.count(7));
        });
        Edge.of(12, "10 times the COLOUR of the BEAD then, and that of the one behind.", () -> {
            BeadRings x = Due.stall("abcd", "da", "ad");
            Due.due("b, a", 10, x.swaps(0, 0));
            Due.due("c, a", 20, x.swaps(0, 1));
            Due.due("d, a", 30, x.swaps(0, 2));
            // bcda: behind the a comes the b
            Due.due("b, a at the last", 10, x.swaps(0, 3));
            Due.due("a, d", 3, x.swaps(1, 0));
            Due.due("a, d at the last", 3, x.swaps(2, 1));
        });
        Edge.of(12, "-2: they are of one COLOUR;", () -> {
            BeadRings x = Due.lived("abba", "c", "dd");
            Due.nothingChanges(x, () -> {
                Due.due("beside each other", -2, x.swaps(0, 1));
                Due.due("the last and the first", -2, x.swaps(0, 3));
                Due.due("one bead and itself", -2, x.swaps(1, 0));
                Due.due("two", -2, x.swaps(2, 0));
                Due.due("two", -2, x.swaps(2, 1));
            });
        });
        Edge.of(12, "NONE: none such.", () -> {
            BeadRings x = Due.lived("abba", "c");
            Due.nothingChanges(x, () -> {
                Due.due("bead 4 of four", -1, x.swaps(0, 4));
                Due.due("bead 1 of one", -1, x.swaps(1, 1));
                Due.due("bead -1", -1, x.swaps(0, -1));
                Due.due("bracelet 2 of two", -1, x.swaps(2, 0));
                Due.due("bracelet -1", -1, x.swaps(-1, 0));
                for (int far : FAR) {
                    Due.due("bead " + far, -1, x.swaps(0, far));
                    Due.due("bracelet " + far, -1, x.swaps(far, 0));
                }
            });
        });
    }

    private static void promise13() {
        Edge.of(13, "A BEAD of a COLOUR comes out of STOCK ahead of a BEAD", () -> {
            BeadRings x = Due.stall("abc", "aaaaaaaaa");
            x.threads(0, 0, 3);
            Due.beads("ahead of the first", x, "dabc", "aaaaaaaaa");
            x.threads(0, 3, 1);
            Due.beads("ahead of the last", x, "dabbc", "aaaaaaaaa");
            x.threads(1, 8, 2);
            Due.beads("the tenth", x, "dabbc", "aaaaaaaaca");
            Due.stock("out of it", x, 2, 10, 10, 11);
            Due.due("they can be undone", 5, x.count(7));
        });
        Edge.of(13, "(behind all, if it is as many as there are):", () -> {
            BeadRings x = Due.stall("abc", "d", "aaaaaaaaa");
            x.threads(0, 3, 3);
            x.threads(1, 1, 0);
            x.threads(2, 9, 1);
            Due.beads("behind all", x, "abcd", "da", "aaaaaaaaab");
        });
        Edge.of(13, "how many there are then.", () -> {
            BeadRings x = Due.stall("a");
            for (int n = 2; n <= 10; n++) {
                Due.due("then", n, x.threads(0, 0, n % 4));
            }
        });
        Edge.of(13, "-2: there are 10;", () -> {
            BeadRings x = Due.lived("abcdabcdab");
            Due.nothingChanges(x, () -> {
                Due.due("ahead", -2, x.threads(0, 0, 0));
                Due.due("behind all", -2, x.threads(0, 10, 3));
            });
            x.sheet(3, 0, 0, 0);
            Due.due("asked ahead of -3", -2, x.threads(0, 0, 0));
        });
        Edge.of(13, "-3: STOCK has none of it;", () -> {
            for (int colour = 0; colour < 4; colour++) {
                BeadRings x = Due.lived("abc");
                x.sheet(2, 4, 1, 0);
                int of = colour;
                Due.due("the last one of it", 4, x.threads(0, 3, colour));
                Due.nothingChanges(x, () -> Due.due("none of " + of, -3, x.threads(0, 0, of)));
                Due.due("of another", 5, x.threads(0, 0, (colour + 1) % 4));
            }
        });
        Edge.of(13, "NONE: others.", () -> {
            BeadRings x = Due.lived("abc", "d");
            Due.nothingChanges(x, () -> {
                Due.due("one too far behind", -1, x.threads(0, 4, 0));
                Due.due("one too far behind", -1, x.threads(1, 2, 0));
                Due.due("bead -1", -1, x.threads(0, -1, 0));
                Due.due("colour 4", -1, x.threads(0, 0, 4));
                Due.due("colour -1", -1, x.threads(0, 0, -1));
                Due.due("bracelet 2 of two", -1, x.threads(2, 0, 0));
                Due.due("bracelet -1", -1, x.threads(-1, 0, 0));
                for (int far : FAR) {
                    Due.due("bead " + far, -1, x.threads(0, far, 0));
                    Due.due("colour " + far, -1, x.threads(0, 0, far));
                    Due.due("bracelet " + far, -1, x.threads(far, 0, 0));
                }
            });
        });
    }

    private static void promise14() {
        Edge.of(14, "A BEAD is taken out, to STOCK", () -> {
            BeadRings x = Due.stall("abcd", "aaaaaaaaab");
            x.cuts(0, 0);
            Due.beads("the first", x, "bcd", "aaaaaaaaab");
            x.cuts(0, 2);
            Due.beads("the last", x, "bc", "aaaaaaaaab");
            x.cuts(1, 9);
            Due.beads("the last of ten", x, "bc", "aaaaaaaaa");
            Due.stock("to it", x, 3, 11, 11, 12);
            x.cuts(0, 1);
            Due.beads("down to one", x, "b", "aaaaaaaaa");
            Due.due("they can be undone", 6, x.count(7));
        });
        Edge.of(14, "(no more than 99 of a COLOUR are kept):", () -> {
            BeadRings x = Due.stall("abcd");
            x.sheet(2, 4, 98, 1);
            x.cuts(0, 0);
            Due.stock("a ninety-ninth", x, 99, 99, 99, 99);
            x.cuts(0, 0);
            Due.stock("a hundredth", x, 99, 99, 99, 99);
            Due.beads("is taken out all the same", x, "cd");
            Due.due("and can be undone", 3, x.count(7));
        });
        Edge.of(14, "its COLOUR.", () -> {
            BeadRings x = Due.stall("dcba");
            Due.due("a", 0, x.cuts(0, 3));
            Due.due("d", 3, x.cuts(0, 0));
            Due.due("c", 2, x.cuts(0, 0));
        });
        Edge.of(14, "-2: it is the only one;", () -> {
            BeadRings x = Due.lived("ab", "d");
            Due.nothingChanges(x, () -> Due.due("one", -2, x.cuts(1, 0)));
            Due.due("one of two", 0, x.cuts(0, 0));
            Due.due("the other one", -2, x.cuts(0, 0));
        });
        Edge.of(14, "NONE: none such.", () -> {
            BeadRings x = Due.lived("abba", "c");
            Due.nothingChanges(x, () -> {
                Due.due("bead 4 of four", -1, x.cuts(0, 4));
                Due.due("bead 1 of one", -1, x.cuts(1, 1));
                Due.due("bead -1", -1, x.cuts(0, -1));
                Due.due("bracelet 2 of two", -1, x.cuts(2, 0));
                Due.due("bracelet -1", -1, x.cuts(-1, 0));
                for (int far : FAR) {
                    Due.due("bead " + far, -1, x.cuts(0, far));
                    Due.due("bracelet " + far, -1, x.cuts(far, 0));
                }
            });
        });
    }

    private static void promise15() {
        Edge.of(15, "BEADS of another one come behind those of a BRACELET;", () -> {
            BeadRings x = Due.stall("ab", "cd", "d");
            x.joins(0, 1);
            Due.beads("one behind it", x, "abcd", "d");
            x.joins(1, 0);
            Due.beads("one ahead of it", x, "dabcd");
            Due.stock("no bead is used", x, 11, 11, 11, 10);
            Due.due("they can be undone", 5, x.count(7));
        });
        Edge.of(15, "the other one is gone (the number of each behind it is 1 less):", () -> {
            BeadRings x = Due.stall("a", "b", "c", "d", "aa");
            x.joins(3, 1);
            Due.beads("1 is gone", x, "a", "c", "db", "aa");
            x.joins(0, 3);
            Due.beads("the last is gone", x, "aaa", "c", "db");
            x.joins(2, 0);
            Due.beads("the first is gone", x, "c", "dbaaa");
            Due.throwsNone("bracelet 2", () -> x.bracelet(2, 0));
        });
        Edge.of(15, "how many there are then.", () -> {
            BeadRings x = Due.stall("a", "bcd", "dddddd");
            Due.due("four", 4, x.joins(0, 1));
            Due.due("ten", 10, x.joins(1, 0));
            Due.beads("ten", x, "ddddddabcd");
        });
        Edge.of(15, "-2: there would be more than 10;", () -> {
            BeadRings x = Due.lived("aaaaa", "bbbbbb", "ccccc");
            Due.nothingChanges(x, () -> {
                Due.due("eleven", -2, x.joins(0, 1));
                Due.due("eleven", -2, x.joins(1, 0));
            });
            Due.due("ten", 10, x.joins(0, 2));
            Due.due("sixteen", -2, x.joins(0, 1));
        });
        Edge.of(15, "NONE: none such, like ones.", () -> {
            BeadRings x = Due.lived("ab", "ccccccccc");
            Due.nothingChanges(x, () -> {
                Due.due("like ones", -1, x.joins(0, 0));
                Due.due("like ones, ahead of too many", -1, x.joins(1, 1));
                Due.due("bracelet 2 of two", -1, x.joins(2, 0));
                Due.due("other 2 of two", -1, x.joins(0, 2));
                Due.due("bracelet -1", -1, x.joins(-1, 0));
                Due.due("other -1", -1, x.joins(0, -1));
                Due.due("like ones, none such", -1, x.joins(2, 2));
                for (int far : FAR) {
                    Due.due("bracelet " + far, -1, x.joins(far, 0));
                    Due.due("other " + far, -1, x.joins(0, far));
                }
            });
            BeadRings y = Due.stall("ab", "ab");
            Due.due("two that are ALIKE are not one", 4, y.joins(0, 1));
        });
    }

    private static void promises16And17() {
        Edge.of(16, "A BRACELET is taken apart, to STOCK (as cuts()),", () -> {
            BeadRings x = Due.stall("abbbbccccd", "abcd");
            x.sheet(2, 4, 94, 1);
            x.parts(0);
            Due.stock("no more than 99 are kept", x, 95, 99, 99, 98);
            x.parts(0);
            Due.stock("the last one", x, 96, 99, 99, 99);
            Due.due("they can be undone", 4, x.count(7));
            Due.due("purse", 0, x.count(3));
        });
        Edge.of(16, "and is gone (as joins()):", () -> {
            BeadRings x = Due.stall("a", "b", "c", "d", "aa");
            x.parts(1);
            Due.beads("1", x, "a", "c", "d", "aa");
            x.parts(3);
            Due.beads("the last", x, "a", "c", "d");
            x.parts(0);
            Due.beads("the first", x, "c", "d");
            x.parts(1);
            x.parts(0);
            Due.due("all", 0, x.count(0));
            Due.stock("all", x, 12, 12, 12, 12);
        });
        Edge.of(16, "how many BEADS it had.", () -> {
            BeadRings x = Due.stall("abcdabcdab", "a");
            Due.due("ten", 10, x.parts(0));
            Due.due("one", 1, x.parts(0));
        });
        Edge.of(16, "NONE: none such.", () -> {
            BeadRings x = Due.lived("abcd", "c");
            Due.nothingChanges(x, () -> {
                Due.due("bracelet 2 of two", -1, x.parts(2));
                Due.due("bracelet -1", -1, x.parts(-1));
                for (int far : FAR) {
                    Due.due("bracelet " + far, -1, x.parts(far));
                }
            });
            Due.due("without bracelets", -1, new BeadRings().parts(0));
        });
        Edge.of(17, "A BRACELET is sold, and is gone (as joins()):", () -> {
            BeadRings x = Due.stall("a", "b", "c", "d", "aa");
            x.sells(1);
            Due.beads("1", x, "a", "c", "d", "aa");
            x.sells(3);
            Due.beads("the last", x, "a", "c", "d");
            x.sells(0);
            Due.beads("the first", x, "c", "d");
            Due.stock("its beads are gone", x, 9, 11, 11, 11);
            Due.due("they can be undone", 8, x.count(7));
        });
        Edge.of(17, "PRICE, which comes to PURSE.", () -> {
            BeadRings x = Due.stall("abca", "abab", "caab");
            Due.rule(x, "n*10+h");
            Due.due("with one that is alike", 41, x.sells(0));
            Due.due("purse", 41, x.count(3));
            Due.due("without", 40, x.sells(1));
            Due.due("purse", 81, x.count(3));
            Due.rule(x, "0-5");
            Due.due("for nothing", 0, x.sells(0));
            Due.due("purse", 81, x.count(3));
            Due.due("for nothing is sold all the same", 0, x.count(0));
            Due.due("and can be undone", 6, x.count(7));
            Due.strings(x, "a");
            Due.rule(x, "999");
            Due.due("for 99", 99, x.sells(0));
            Due.due("purse", 180, x.count(3));
        });
        Edge.of(17, "NONE: none such.", () -> {
            BeadRings x = Due.lived("abcd", "c");
            Due.nothingChanges(x, () -> {
                Due.due("bracelet 2 of two", -1, x.sells(2));
                Due.due("bracelet -1", -1, x.sells(-1));
                for (int far : FAR) {
                    Due.due("bracelet " + far, -1, x.sells(far));
                }
            });
            Due.due("without bracelets", -1, new BeadRings().sells(0));
        });
    }

    private static void promise18() {
        Edge.of(18, "n (1 .. 9) BEADS of a COLOUR come to STOCK, for 1 each out of PURSE: STOCK of it.", () -> {
            BeadRings x = Due.lived();
            x.sheet(2, 4, 12, 0);
            Due.due("nine", 21, x.buys(0, 9));
            Due.due("purse", 9, x.count(3));
            Due.due("one", 13, x.buys(3, 1));
            Due.due("purse", 8, x.count(3));
            Due.due("all that is left", 20, x.buys(1, 8));
            Due.due("purse", 0, x.count(3));
            Due.stock("bought", x, 21, 20, 12, 13);
            Due.due("they can be undone", 5, x.count(7));
        });
        Edge.of(18, "-2: PURSE has not so much;", () -> {
            BeadRings x = Due.lived();
            Due.nothingChanges(new BeadRings(), () -> Due.due("of nothing", -2, new BeadRings().buys(0, 1)));
            x.buys(0, 9);
            x.buys(0, 5);
            Due.nothingChanges(x, () -> {
                Due.due("five of four", -2, x.buys(0, 5));
                Due.due("nine of four", -2, x.buys(0, 9));
            });
            x.sheet(2, 4, 99, 0);
            Due.due("asked ahead of -3", -2, x.buys(0, 5));
            x.sheet(2, 4, 9, 0);
            Due.due("four of four", 13, x.buys(0, 4));
        });
        Edge.of(18, "-3: it would be above 99;", () -> {
            BeadRings x = Due.lived();
            x.sheet(2, 4, 96, 1);
            Due.nothingChanges(x, () -> {
                Due.due("96 and 4", -3, x.buys(0, 4));
                Due.due("98 and 2", -3, x.buys(2, 2));
                Due.due("99 and 1", -3, x.buys(3, 1));
                Due.due("99 and 9", -3, x.buys(3, 9));
            });
            Due.due("96 and 3", 99, x.buys(0, 3));
            Due.due("98 and 1", 99, x.buys(2, 1));
        });
        Edge.of(18, "NONE: others.", () -> {
            BeadRings x = Due.lived();
            Due.nothingChanges(x, () -> {
                Due.due("none", -1, x.buys(0, 0));
                Due.due("ten", -1, x.buys(0, 10));
                Due.due("-1", -1, x.buys(0, -1));
                Due.due("colour 4", -1, x.buys(4, 1));
                Due.due("colour -1", -1, x.buys(-1, 1));
                for (int far : FAR) {
                    Due.due("" + far, -1, x.buys(0, far));
                    Due.due("colour " + far, -1, x.buys(far, 1));
                }
            });
        });
    }

    private static void day(String text, int want, String... bracelets) {
        BeadRings x = Due.stall("abcd", "aab", "c");
        Due.due("day " + text, want, Due.day(x, text));
        Due.beads("day " + text, x, bracelets);
        Due.row("day " + text, x, 0, bracelets.length);
    }

    private static void dayRefusedAtFirst(String... texts) {
        for (String text : texts) {
            BeadRings x = Due.stall("aacd", "abbbbbbbbb", "c");
            Due.due("day " + text, 0, Due.day(x, text));
            Due.row("day " + text, x, 1, 3);
            Due.beads("day " + text, x, "aacd", "abbbbbbbbb", "c");
        }
    }

    private static void dayFaults(String[] texts, int... want) {
        for (int i = 0; i < want.length; i++) {
            Due.due("day " + texts[i], want[i], Due.day(Due.stall("abcd"), texts[i]));
        }
        Due.due("texts", want.length, texts.length);
    }

    private static void promise19Acts() {
        Edge.of(19, "THE TEXT tells A DAY (an empty one: nothing),", () -> {
            BeadRings x = Due.lived("abcd", "d");
            Due.onlyTextAndRowChange(x, () -> Due.due("empty", 0, Due.day(x, "")));
            Due.row("empty", x, 0, 2);
            Due.due("without bracelets", 0, Due.day(new BeadRings(), ""));
        });
        Edge.of(19, "signs one behind another:", () -> {
            day("f0f1", 2, "dcba", "baa", "c");
            dayFaults(new String[] {"f0 f1", "f0,f1", " f0", "f0\n"}, -3, -3, -1, -3);
        });
        Edge.of(19, "r and two digits (rolls()),", () -> {
            day("r01", 1, "bcda", "aab", "c");
            day("r09", 1, "bcda", "aab", "c");
            day("r00", 1, "abcd", "aab", "c");
            dayRefusedAtFirst("r31", "r90");
            dayFaults(new String[] {"ra", "r0a", "r:0", "r0/", "R00"}, -2, -3, -2, -3, -1);
        });
        Edge.of(19, "f and a digit (flips()),", () -> {
            day("f1", 1, "abcd", "baa", "c");
            dayRefusedAtFirst("f3", "f9");
            dayFaults(new String[] {"fa", "f/", "f:", "F0", "f00"}, -2, -2, -2, -1, -3);
        });
        Edge.of(19, "x and two digits (swaps()),", () -> {
            day("x01", 1, "acbd", "aab", "c");
            day("x03", 1, "dbca", "aab", "c");
            dayRefusedAtFirst("x04", "x00", "x20", "x30");
            dayFaults(new String[] {"xa", "x0a", "x001"}, -2, -3, -4);
        });
        Edge.of(19, "t, two digits and a letter a .. d (threads()),", () -> {
            day("t00d", 1, "dabcd", "aab", "c");
            day("t13a", 1, "abcd", "aaba", "c");
            dayRefusedAtFirst("t05a", "t10a", "t30a");
            dayFaults(new String[] {"t00e", "t00`", "t001", "ta", "t0a", "t00A"}, -4, -4, -4, -2, -3, -4);
        });
        Edge.of(19, "c and two digits (cuts()),", () -> {
            day("c00", 1, "bcd", "aab", "c");
            day("c12", 1, "abcd", "aa", "c");
            dayRefusedAtFirst("c04", "c20", "c21", "c30");
            dayFaults(new String[] {"ca", "c0a", "c00a"}, -2, -3, -4);
        });
        Edge.of(19, "j and two digits (joins()),", () -> {
            day("j01", 1, "abcdaab", "c");
            day("j20", 1, "aab", "cabcd");
            dayRefusedAtFirst("j00", "j03", "j30", "j01");
            dayFaults(new String[] {"ja", "j0a", "j000"}, -2, -3, -4);
        });
    }

    private static void promise19MoreActs() {
        Edge.of(19, "u and a digit (parts()),", () -> {
            day("u0", 1, "aab", "c");
            BeadRings x = Due.stall("abcd");
            Due.day(x, "u0");
            Due.stock("u0", x, 12, 12, 12, 12);
            dayRefusedAtFirst("u3", "u9");
            dayFaults(new String[] {"ua", "u/", "u:"}, -2, -2, -2);
        });
        Edge.of(19, "s and a digit (sells()),", () -> {
            day("s2", 1, "abcd", "aab");
            BeadRings x = Due.stall("abcd");
            Due.rule(x, "n*n");
            Due.day(x, "s0");
            Due.due("by THE RULE", 16, x.count(3));
            Due.stock("s0", x, 11, 11, 11, 11);
            dayRefusedAtFirst("s3", "s9");
            dayFaults(new String[] {"sa", "s/", "s:"}, -2, -2, -2);
        });
        Edge.of(19, "b, a letter a .. d and a digit 1 .. 9 (buys()):", () -> {
            BeadRings x = Due.lived();
            x.sheet(2, 4, 12, 0);
            Due.due("each colour", 4, Due.day(x, "ba1bb2bc3bd4"));
            Due.stock("each colour", x, 13, 14, 15, 16);
            Due.due("nine of what is left", 0, Due.day(x, "ba9"));
            Due.due("all that is left", 1, Due.day(x, "ba8"));
            Due.due("purse", 0, x.count(3));
            dayRefusedAtFirst("ba1", "bd9");
            dayFaults(new String[] {"ba0", "be1", "b`1", "b1", "baa", "ba:", "bA1"}, -3, -2, -2, -2, -3, -3, -2);
        });
        Edge.of(19, "they are done one by one,", () -> {
            day("c00c00c00r15", 4, "d", "baa", "c");
            day("u0u0u0", 3);
            BeadRings x = Due.stall("abcd");
            Due.due("what comes to the purse can be spent", 2, Due.day(x, "s0ba9"));
            Due.stock("bought", x, 11 + 9, 11, 11, 11);
            Due.due("purse", 3, x.count(3));
        });
        Edge.of(19, "till one is refused (it answers below 0):", () -> {
            BeadRings x = Due.stall("abcd", "aab", "c");
            Due.due("behind two, none such", 2, Due.day(x, "f0f1u7f2r01"));
            Due.row("behind two, none such", x, 1, 3);
            Due.beads("the rest is not done", x, "dcba", "baa", "c");
            Due.due("-2 at first", 0, Due.day(x, "c20r01"));
            Due.row("-2 at first", x, 1, 3);
            x.sheet(3, 0, 0, 0);
            Due.due("-3 behind one", 1, Due.day(x, "r01t00ar01"));
            Due.beads("-3 behind one", x, "cbad", "baa", "c");
            Due.due("the last of them", 1, Due.day(x, "r03u8"));
            Due.row("the last of them", x, 1, 3);
        });
        Edge.of(19, "how many were done;", () -> {
            BeadRings x = Due.stall("abcd");
            Due.due("one", 1, Due.day(x, "f0"));
            Due.due("thirty", 30, Due.day(x, "f0".repeat(30)));
            Due.due("twenty", 20, Due.day(x, "r01".repeat(20)));
        });
        Edge.of(19, "the ROW: 1 if one was refused, else 0; how many BRACELETS there are then.", () -> {
            BeadRings x = Due.stall("abcd", "aab", "c");
            Due.day(x, "f0");
            Due.row("none refused", x, 0, 3);
            Due.day(x, "u0u5");
            Due.row("one refused", x, 1, 2);
            Due.day(x, "s0s0");
            Due.row("none left", x, 0, 0);
            Due.day(x, "f0");
            Due.row("refused, none left", x, 1, 0);
        });
    }

    private static void promise19Faults() {
        Edge.of(19, "-1 - p: the sign at p can't stand there", () -> {
            dayFaults(new String[] {"q", "0", "a", "f0q", "f0f0f0g", "r00a", "fq", "t00q", "ba1x0z", "x"}, -1, -1, -1, -3, -7, -4, -2, -4, -6, -2);
            for (int sign = 0; sign < 256; sign++) {
                BeadRings x = new BeadRings();
                String one = "" + (char) sign;
                boolean isDigit = "0123456789".contains(one);
                boolean isLetter = "abcd".contains(one);
                Due.due("sign " + sign + " as an act", "rfxtcjusb".contains(one) ? -2 : -1, Due.day(x, one));
                Due.due("sign " + sign + " behind f", isDigit ? 0 : -2, Due.day(x, "f" + one));
                Due.due("sign " + sign + " behind r0", isDigit ? 0 : -3, Due.day(x, "r0" + one));
                Due.due("sign " + sign + " behind t00", isLetter ? 0 : -4, Due.day(x, "t00" + one));
                Due.due("sign " + sign + " behind b", isLetter ? -3 : -2, Due.day(x, "b" + one));
                Due.due("sign " + sign + " behind ba", isDigit && sign > '0' ? 0 : -3, Due.day(x, "ba" + one));
            }
            Due.due("at 59", -60, Due.day(Due.stall("abcd"), "f0".repeat(29) + "f" + "f"));
            Due.due("at 59, and more", -60, Due.day(Due.stall("abcd"), "f0".repeat(29) + "ff0"));
        });
        Edge.of(19, "(its end, if it ends too early;", () -> {
            dayFaults(new String[] {"r", "r0", "f", "x", "x0", "t", "t0", "t00", "c", "c0", "j", "j0", "u", "s", "b", "ba"},
                -2, -3, -2, -2, -3, -2, -3, -4, -2, -3, -2, -3, -2, -2, -2, -3);
            dayFaults(new String[] {"f0f", "f0t00", "r00f0".repeat(12).substring(0, 59)}, -4, -6, -60);
            Due.due("at 60", -61, Due.day(Due.stall("abcd"), "r00" + "f0".repeat(28) + "f"));
        });
        Edge.of(19, "60, if it has more and the first 60 could go on or end);", () -> {
            String sixty = "f0".repeat(30);
            Due.due("60 signs", 30, Due.day(Due.stall("abcd"), sixty));
            String[] more = {sixty + "f", sixty + "f0", sixty + "?", sixty.substring(2) + "r00", sixty.substring(2) + "r0?"};
            dayFaults(more, -61, -61, -61, -61, -61);
            Due.due("80 signs", -61, Due.day(Due.stall("abcd"), "f0".repeat(40)));
            Due.due("80 signs, a fault ahead of them", -60, Due.day(Due.stall("abcd"), "f0".repeat(29) + "f?" + "f0".repeat(10)));
            Due.due("80 signs, a fault at first", -1, Due.day(Due.stall("abcd"), "?f".repeat(40)));
        });
        Edge.of(19, "nothing is done then.", () -> {
            BeadRings x = Due.lived("abcd", "aab", "c");
            Due.onlyTextIsEmptied(x, () -> {
                Due.due("a fault behind acts", -5, Due.day(x, "f0u1q"));
                Due.due("it ends too early", -6, Due.day(x, "f0u1f"));
                Due.due("it has more than 60", -61, Due.day(x, "f0r01".repeat(13)));
            });
        });
    }

    private interface Act {
        int of(BeadRings x);
    }

    /** The act is the first one at its place among those that are kept. */
    private static void undone(String what, Act act) {
        BeadRings x = Due.lived("abcd", "aab", "c");
        String before = Due.state(x);
        Due.due(what + " is done", true, act.of(x) >= 0);
        Due.due(what + " changes something", false, before.equals(Due.state(x)));
        Due.due(what + " can be undone", 6, x.count(7));
        Due.due("undo of " + what, 5, x.undo());
        Due.due("undo of " + what, before, Due.state(x));
    }

    private static void promise20() {
        Edge.of(20, "The latest strings(), rolls() .. buys() or day()", () -> {
            undone("strings", x -> Due.strings(x, "dd"));
            undone("rolls", x -> x.rolls(0, 1));
            undone("flips", x -> x.flips(0));
            undone("swaps", x -> x.swaps(0, 0));
            undone("threads", x -> x.threads(0, 0, 0));
            undone("cuts", x -> x.cuts(0, 0));
            undone("joins", x -> x.joins(0, 1));
            undone("parts", x -> x.parts(0));
            undone("sells", x -> x.sells(0));
            undone("buys", x -> x.buys(0, 1));
            undone("day", x -> Due.day(x, "f0u1"));
        });
        Edge.of(20, "The latest strings(), rolls() .. buys() or day()", () -> {
            BeadRings x = Due.lived("abcd", "aab", "c");
            Due.day(x, "ba1");
            x.rolls(0, 1);
            x.flips(1);
            x.undo();
            Due.beads("the latest one", x, "bcda", "aab", "c");
            x.undo();
            Due.beads("the one ahead of it", x, "abcd", "aab", "c");
            Due.due("purse", 17, x.count(3));
            x.undo();
            Due.due("the day", 18, x.count(3));
        });
        Edge.of(20, "(of 15 that are kept, the latest ones;", () -> {
            BeadRings x = Due.stall("abcd");
            for (int i = 1; i <= 14; i++) {
                x.rolls(0, 1);
            }
            Due.due("fifteen", 15, x.count(7));
            x.rolls(0, 1);
            Due.due("no sixteenth", 15, x.count(7));
            for (int left = 14; left >= 0; left--) {
                Due.due("left", left, x.undo());
            }
            Due.beads("the first one is no more kept", x, "abcd");
            Due.due("none is left", -1, x.undo());
            for (int i = 0; i < 40; i++) {
                x.rolls(0, 1);
                x.rolls(0, 1);
                x.undo();
            }
            for (int left = 13; left >= 0; left--) {
                Due.due("left behind more than fifteen", left, x.undo());
            }
            Due.due("none is left", -1, x.undo());
            Due.beads("rolled by 40 - 14", x, "cdab");
        });
        Edge.of(20, "such as were done;", () -> {
            BeadRings x = Due.lived("abcd", "c");
            int before = x.count(7);
            x.rolls(0, 100);
            x.flips(2);
            x.swaps(1, 0);
            x.threads(0, 9, 0);
            x.cuts(1, 0);
            x.joins(0, 0);
            x.parts(2);
            x.sells(-1);
            x.buys(0, 10);
            Due.strings(x, "e");
            Due.day(x, "f");
            Due.day(x, "");
            x.sheet(0, -1, 0, 0);
            Due.due("none of these", before, x.count(7));
            x.rolls(0, 0);
            x.flips(1);
            Due.due("what changes nothing was done", before + 2, x.count(7));
        });
        promise20More();
    }

    private static void promise20More() {
        Edge.of(20, "day() of which one act was done, as one)", () -> {
            BeadRings x = Due.stall("abcd", "c");
            Due.day(x, "f0f1r01");
            Due.due("three acts", 3, x.count(7));
            Due.day(x, "f1u9");
            Due.due("one act, one refused", 4, x.count(7));
            Due.day(x, "u9f1");
            Due.due("no act", 4, x.count(7));
            Due.day(x, "");
            Due.due("nothing", 4, x.count(7));
            Due.due("undo", 3, x.undo());
            Due.due("undo", 2, x.undo());
            Due.beads("as one", x, "abcd", "c");
        });
        Edge.of(20, "is undone (BRACELETS, STOCK, PURSE are as ahead of it):", () -> {
            BeadRings x = Due.stall("abcd", "aab");
            x.sells(1);
            Due.rule(x, "n");
            x.buys(2, 5);
            x.felt(0, 0);
            x.heard(0, 1);
            x.many(6, 2);
            x.keep(0);
            x.sign(0x61626364);
            x.undo();
            x.undo();
            Due.beads("bracelets", x, "abcd", "aab");
            Due.stock("stock", x, 9, 10, 11, 11);
            Due.due("purse", 0, x.count(3));
            Due.due("THE RULE is not", 4, x.bracelet(0, 4));
            Due.due("what was felt is not", 1, x.count(5));
            Due.due("what was heard is not", 1, x.count(6));
            Due.row("the ROW is not", x, 14, 9);
            Due.due("THE TEXT is not", 4, x.count(9));
            Due.due("what is kept is not", true, x.again(0));
            Due.due("what is kept is not", 1, x.count(0));
        });
        Edge.of(20, "is undone (BRACELETS, STOCK, PURSE are as ahead of it):", () -> {
            BeadRings x = Due.lived("abcd", "aab", "c", "abca", "ddab");
            String before = Due.state(x);
            Due.due("each of five", 9, Due.day(x, "r41f4x30t10dc00j12u0s1bd9"));
            Due.due("undo", 7, x.undo());
            Due.due("undo", before, Due.state(x));
        });
        Edge.of(20, "how many are left that can be.", () -> {
            BeadRings x = Due.stall("a", "b", "c");
            Due.due("two", 2, x.undo());
            Due.due("one", 1, x.undo());
            Due.due("none", 0, x.undo());
            Due.due("no bracelets", 0, x.count(0));
        });
        Edge.of(20, "Refused: none.", () -> {
            BeadRings x = new BeadRings();
            Due.nothingChanges(x, () -> Due.due("new", -1, x.undo()));
            Due.strings(x, "a");
            x.undo();
            Due.nothingChanges(x, () -> Due.due("all undone", -1, x.undo()));
        });
        Edge.of(20, "(again() forgets them, if it is not refused.)", () -> {
            BeadRings x = Due.stall("abcd", "c");
            x.keep(0);
            x.flips(0);
            Due.due("refused", false, x.again(1));
            Due.due("refused", 3, x.count(7));
            Due.due("done", true, x.again(0));
            Due.due("done", 0, x.count(7));
            Due.nothingChanges(x, () -> Due.due("undo", -1, x.undo()));
            x.rolls(0, 1);
            Due.due("one more", 0, x.undo());
            Due.beads("one more", x, "abcd", "c");
        });
    }

    public static void main(String[] args) {
        promises10And11();
        promise12();
        promise13();
        promise14();
        promise15();
        promises16And17();
        promise18();
        promise19Acts();
        promise19MoreActs();
        promise19Faults();
        promise20();
        Edge.allAreQuoted(10, 20);
        Due.end("EdgesDoneTest");
    }
}
