/** Promises 1 to 9, sentence by sentence. */
public final class EdgesStockTest {
    private static final int[] FAR = {Integer.MIN_VALUE, -1000, 1000, Integer.MAX_VALUE};

    private static void promise1() {
        Edge.of(1, "No BRACELETS;", () -> {
            BeadRings x = new BeadRings();
            Due.due("count(0)", 0, x.count(0));
            Due.throwsNone("bracelet(0, 0)", () -> x.bracelet(0, 0));
            Due.throwsNone("bead(0, 0)", () -> x.bead(0, 0));
            Due.due("kinds", 0, x.kinds());
        });
        Edge.of(1, "12 BEADS of each COLOUR in STOCK.", () -> {
            BeadRings x = new BeadRings();
            Due.stock("new", x, 12, 12, 12, 12);
            Due.due("of all", 48, x.count(2));
        });
    }

    private static void promise2() {
        Edge.of(2, "Four signs come behind THE TEXT,", () -> {
            BeadRings x = new BeadRings();
            x.sign(0x64616161);
            x.end(1);
            x.sign(0x61626364);
            Due.due("strings", 0, x.strings());
            Due.beads("d, and then abcd", x, "dabcd");
        });
        Edge.of(2, "of v the highest byte first:", () -> {
            BeadRings x = new BeadRings();
            x.sign(0x64636261);
            x.strings();
            Due.beads("dcba", x, "dcba");
            int[] v = {0xFF616161, 0x61FF6161, 0x6161FF61, 0x616161FF, 0xE1616161, 0x61616161 ^ 0x80, 0, 0x61006161};
            int[] want = {-1, -2, -3, -4, -1, -4, -1, -2};
            for (int i = 0; i < v.length; i++) {
                x.sign(v[i]);
                Due.due("a byte that is no letter in " + Integer.toHexString(v[i]), want[i], x.strings());
            }
        });
        Edge.of(2, "how many it has.", () -> {
            BeadRings x = new BeadRings();
            Due.due("of nothing", 4, x.sign(0));
            Due.due("of four", 8, x.sign(-1));
            x.end(3);
            Due.due("of three", 7, x.sign(0x61616161));
            Due.due("count(9)", 7, x.count(9));
        });
        Edge.of(2, "Refused: there would be more than 80.", () -> {
            BeadRings x = new BeadRings();
            for (int n = 4; n <= 80; n += 4) {
                Due.due("up to 80", n, x.sign(0x61626364));
            }
            Due.nothingChanges(x, () -> Due.due("84", -1, x.sign(0x61626364)));
            for (int n = 79; n >= 77; n--) {
                x.end(n);
                Due.nothingChanges(x, () -> Due.due("just above 80", -1, x.sign(0x61626364)));
            }
            x.end(76);
            Due.due("just 80", 80, x.sign(0x61626364));
        });
    }

    private static void promise3() {
        Edge.of(3, "THE TEXT has its first n signs alone: true;", () -> {
            BeadRings x = new BeadRings();
            x.sign(0x61626364);
            Due.due("all of them", true, x.end(4));
            Due.due("all of them", 4, x.count(9));
            Due.due("three", true, x.end(3));
            Due.due("three", 3, x.count(9));
            x.strings();
            Due.beads("the first ones", x, "abc");
            Due.due("none of none", true, x.end(0));
            x.sign(0x61626364);
            Due.due("none of four", true, x.end(0));
            Due.due("none of four", 0, x.count(9));
        });
        Edge.of(3, "false if it has not so many,", () -> {
            BeadRings x = new BeadRings();
            Due.due("one of none", false, x.end(1));
            x.sign(0x61626364);
            Due.nothingChanges(x, () -> {
                Due.due("five of four", false, x.end(5));
                Due.due("far more", false, x.end(Integer.MAX_VALUE));
            });
            x.end(2);
            Due.due("three of two that were four", false, x.end(3));
            Due.due("two", 2, x.count(9));
        });
        Edge.of(3, "or n is below 0.", () -> {
            BeadRings x = new BeadRings();
            Due.due("of none", false, x.end(-1));
            x.sign(0x61626364);
            Due.nothingChanges(x, () -> {
                Due.due("-1", false, x.end(-1));
                Due.due("far below", false, x.end(Integer.MIN_VALUE));
            });
        });
    }

    private static void promise4() {
        Edge.of(4, "THE TEXT (1 to 10 letters a .. d) is a BRACELET more, out of STOCK: its number.", () -> {
            BeadRings x = Due.stall("c", "abcdabcdab");
            Due.beads("one and ten", x, "c", "abcdabcdab");
            Due.stock("out of it", x, 9, 9, 9, 10);
            x.parts(0);
            Due.due("the number is by how many there are", 1, Due.strings(x, "dd"));
            Due.beads("behind the others", x, "abcdabcdab", "dd");
        });
        Edge.of(4, "-1 - p: the sign at p can't stand there", () -> {
            BeadRings x = new BeadRings();
            for (int p = 0; p < 10; p++) {
                Due.due("e at " + p, -1 - p, Due.strings(x, "abcdabcdab".substring(0, p) + "e" + "abcdabcdab".substring(p + 1)));
            }
            char[] others = {'e', '`', 'A', 'D', ' ', '0', 0, 127, 128, 255};
            for (char other : others) {
                Due.due("sign " + (int) other, -2, Due.strings(x, "a" + other));
            }
            Due.due("of two the first", -2, Due.strings(x, "axbx"));
        });
        Edge.of(4, "-1 - p: the sign at p can't stand there", () -> {
            for (int sign = 0; sign < 256; sign++) {
                BeadRings x = new BeadRings();
                Due.due("sign " + sign, sign >= 'a' && sign <= 'd' ? 0 : -1, Due.strings(x, "" + (char) sign));
            }
        });
        Edge.of(4, "(its end for none;", () -> {
            BeadRings x = new BeadRings();
            Due.due("none", -1, x.strings());
            Due.due("no bracelet", 0, x.count(0));
        });
        Edge.of(4, "the eleventh).", () -> {
            BeadRings x = new BeadRings();
            Due.due("eleven", -11, Due.strings(x, "abcdabcdabc"));
            Due.due("twelve", -11, Due.strings(x, "abcdabcdabcd"));
            Due.due("eighty", -11, Due.strings(x, "abcd".repeat(20)));
            Due.due("the eleventh is no letter", -11, Due.strings(x, "abcdabcdab?"));
            Due.due("the tenth is no letter", -10, Due.strings(x, "abcdabcda?bc"));
            Due.due("no bracelet", 0, x.count(0));
        });
        Edge.of(4, "-100: there are 5;", () -> {
            BeadRings x = Due.stall("a", "b", "c", "d", "a");
            Due.due("a sixth", -100, Due.strings(x, "b"));
            x.parts(2);
            Due.due("a fifth", 4, Due.strings(x, "b"));
        });
        Edge.of(4, "-101: STOCK has not so many", () -> {
            for (int colour = 0; colour < 4; colour++) {
                BeadRings x = new BeadRings();
                x.sheet(2, 4, 2, 0);
                String letter = "abcd".substring(colour, colour + 1);
                Due.due("three " + letter, -101, Due.strings(x, letter.repeat(3)));
                Due.due("three, one of them last", -101, Due.strings(x, letter + letter + "abcd" + "dcb"));
                Due.due("just two", 0, Due.strings(x, letter.repeat(2)));
                Due.due("none is left", -101, Due.strings(x, letter));
            }
        });
        Edge.of(4, "(asked in this order, behind all signs;", () -> {
            BeadRings x = Due.stall("a", "b", "c", "d", "a");
            x.sheet(3, 0, 0, 0);
            Due.due("five ahead of stock", -100, Due.strings(x, "a"));
            Due.due("signs ahead of five", -10, Due.strings(x, "aaaaaaaaae"));
            Due.due("the eleventh ahead of five", -11, Due.strings(x, "aaaaaaaaaaa"));
            Due.due("none ahead of five", -1, Due.strings(x, ""));
            x.parts(0);
            x.sheet(3, 0, 0, 0);
            Due.due("signs ahead of stock", -3, Due.strings(x, "aa?"));
            Due.due("stock", -101, Due.strings(x, "aa"));
        });
        Edge.of(4, "nothing changes).", () -> {
            BeadRings x = Due.lived("a", "b", "c", "d");
            x.sheet(2, 4, 1, 0);
            Due.onlyTextIsEmptied(x, () -> {
                Due.due("a sign", -2, Due.strings(x, "ax"));
                Due.due("none", -1, Due.strings(x, ""));
                Due.due("stock", -101, Due.strings(x, "abcdd"));
            });
            Due.strings(x, "d");
            Due.onlyTextIsEmptied(x, () -> Due.due("five", -100, Due.strings(x, "a")));
        });
    }

    private static void promise5() {
        Edge.of(5, "THE TEXT is THE RULE", () -> {
            BeadRings x = Due.lived("abca");
            Due.due("n*7", 0, Due.rule(x, "n*7"));
            Due.due("price", 28, x.bracelet(0, 4));
            Due.due("of all", 28, x.count(4));
            Due.due("another", 0, Due.rule(x, "c"));
            Due.due("price", 3, x.bracelet(0, 4));
            Due.due("a rule is none that can be undone", 3, x.count(7));
            Due.row("it tells no ROW", x, 14, 9);
        });
        Edge.of(5, "(an empty one: none): 0.", () -> {
            BeadRings x = Due.stall("abca");
            Due.rule(x, "1");
            Due.due("empty", 0, Due.rule(x, ""));
            Due.due("n+c*2", 10, x.bracelet(0, 4));
        });
        Edge.of(5, "-1 - p: the sign at p can't stand there", () -> {
            BeadRings x = Due.lived("abca");
            Due.rule(x, "n*7");
            String[] texts = {"+", "x", "N", " n", "n+*c", "nn", "n2", "2n", "n)", "()", "n!", "1<2<3", "1234", "(((((n", "~2", "n~2", "n(", "\u00e9"};
            int[] want = {-1, -1, -1, -1, -3, -2, -2, -2, -2, -2, -2, -4, -4, -5, -1, -2, -2, -1};
            Due.onlyTextIsEmptied(x, () -> {
                for (int i = 0; i < want.length; i++) {
                    Due.due("rule " + texts[i], want[i], Due.rule(x, texts[i]));
                }
            });
            Due.due("THE RULE stays", 28, x.bracelet(0, 4));
            Due.due("at its last sign", -40, Due.rule(x, "n+".repeat(19) + "n" + "n"));
        });
        Edge.of(5, "-1 - p: the sign at p can't stand there", () -> {
            for (int sign = 0; sign < 256; sign++) {
                BeadRings x = new BeadRings();
                String one = "" + (char) sign;
                boolean isDigit = "0123456789".contains(one);
                boolean isJoin = "+-*/<>=".contains(one);
                int first = isDigit || "nctfmdh".contains(one) ? 0 : "-(".contains(one) ? -2 : -1;
                Due.due("sign " + sign + " at first", first, Due.rule(x, one));
                Due.due("sign " + sign + " behind a letter", isJoin ? -3 : -2, Due.rule(x, "n" + one));
                Due.due("sign " + sign + " behind a digit", isDigit ? 0 : isJoin ? -3 : -2, Due.rule(x, "1" + one));
                Due.due("sign " + sign + " behind a bracket", ")".equals(one) ? 0 : isJoin ? -4 : -3, Due.rule(x, "(n" + one));
            }
        });
        Edge.of(5, "THE TEXT is THE RULE", () -> {
            String[] rules = {"12", "345-300", "nn", "67", "8+90", "(1", "-", "7", "n+", "(((((", "123-99", "1<2", "1=2", "((((n))))", "n"};
            int[] prices = {12, 45, 45, 67, 98, 98, 98, 7, 7, 7, 24, 1, 0, 4, 4};
            BeadRings x = Due.stall("abca");
            for (int i = 0; i < rules.length; i++) {
                Due.rule(x, rules[i]);
                Due.due("price behind " + rules[i], prices[i], x.bracelet(0, 4));
            }
        });
        Edge.of(5, "(its end, if it ends too early;", () -> {
            BeadRings x = Due.lived("abca");
            Due.rule(x, "n*7");
            String[] texts = {"n+", "(n", "-", "n<", "((n)", "2*(", "n-", "(", "n/", "1="};
            int[] want = {-3, -3, -2, -3, -5, -4, -3, -2, -3, -3};
            Due.onlyTextIsEmptied(x, () -> {
                for (int i = 0; i < want.length; i++) {
                    Due.due("rule " + texts[i], want[i], Due.rule(x, texts[i]));
                }
                Due.due("of 40 signs", -41, Due.rule(x, "n+".repeat(20)));
                Due.due("of 40 signs -", -41, Due.rule(x, "-".repeat(40)));
                Due.due("of 40 signs, in a bracket", -41, Due.rule(x, "(" + "n+".repeat(19) + "n"));
            });
            Due.due("THE RULE stays", 28, x.bracelet(0, 4));
        });
        Edge.of(5, "40, if it has more and the first 40 could go on or end).", () -> {
            String thirtyNine = "n+".repeat(19) + "n";
            String forty = "-" + thirtyNine;
            BeadRings x = Due.lived("abca");
            Due.due("40 signs", 0, Due.rule(x, forty));
            Due.due("40 signs", 18 * 4, x.bracelet(0, 4));
            Due.onlyTextIsEmptied(x, () -> {
                Due.due("they could end, and it goes on", -41, Due.rule(x, forty + "+n"));
                Due.due("they could end, and a fault comes", -41, Due.rule(x, forty + "?"));
                Due.due("they could go on, and do", -41, Due.rule(x, thirtyNine + "+n"));
                Due.due("they could go on, and a fault comes", -41, Due.rule(x, thirtyNine + "++"));
                Due.due("a number goes on", -41, Due.rule(x, "n+".repeat(19) + "-12"));
                Due.due("a bracket is open", -41, Due.rule(x, "(" + thirtyNine + ")"));
                Due.due("80 signs", -41, Due.rule(x, "n+".repeat(40)));
                Due.due("80 signs -", -41, Due.rule(x, "-".repeat(80)));
                Due.due("a fault ahead of them", -40, Due.rule(x, thirtyNine + "n+n"));
                Due.due("a fault at first", -1, Due.rule(x, "?" + forty));
            });
            Due.due("THE RULE stays", 18 * 4, x.bracelet(0, 4));
        });
    }

    private static void promise6() {
        Edge.of(6, "Of a BRACELET, what 0: how many BEADS,", () -> {
            BeadRings x = Due.stall("d", "abcdabcdab");
            Due.due("one", 1, x.bracelet(0, 0));
            Due.due("ten", 10, x.bracelet(1, 0));
        });
        Edge.of(6, "1: its COLOURS (bits),", () -> {
            BeadRings x = Due.stall("d", "abcd", "a", "cbb", "aaaaaaaaad");
            int[] want = {8, 15, 1, 6, 9};
            for (int b = 0; b < 5; b++) {
                Due.due("colours of " + b, want[b], x.bracelet(b, 1));
            }
        });
        Edge.of(6, "2: t, 3: f (as in THE RULE),", () -> {
            BeadRings x = Due.stall("d", "abab", "abca", "aaab", "bbbbbb");
            int[] t = {1, 2, 4, 4, 1};
            int[] f = {1, 2, 0, 1, 6};
            for (int b = 0; b < 5; b++) {
                Due.due("t of " + b, t[b], x.bracelet(b, 2));
                Due.due("f of " + b, f[b], x.bracelet(b, 3));
            }
        });
        Edge.of(6, "4: PRICE,", () -> {
            BeadRings x = Due.stall("abca", "d");
            Due.due("four of three", 10, x.bracelet(0, 4));
            Due.due("one of one", 3, x.bracelet(1, 4));
            Due.rule(x, "n*n*n*n-1");
            Due.due("no more than 99", 99, x.bracelet(0, 4));
            Due.due("nothing", 0, x.bracelet(1, 4));
        });
        Edge.of(6, "5: how many others are ALIKE.", () -> {
            BeadRings x = Due.stall("ab", "ba", "abab", "b", "ab");
            int[] want = {2, 2, 0, 0, 2};
            for (int b = 0; b < 5; b++) {
                Due.due("alike to " + b, want[b], x.bracelet(b, 5));
            }
            x.parts(4);
            Due.due("one that is gone is none", 1, x.bracelet(0, 5));
        });
        Edge.of(6, "NoSuchElementException: none such, another what.", () -> {
            BeadRings x = Due.lived("abca", "d");
            Due.nothingChanges(x, () -> {
                for (int what = -1; what < 7; what++) {
                    int asked = what;
                    Due.throwsNone("bracelet(2, " + what + ")", () -> x.bracelet(2, asked));
                    Due.throwsNone("bracelet(-1, " + what + ")", () -> x.bracelet(-1, asked));
                }
                Due.throwsNone("bracelet(0, 6)", () -> x.bracelet(0, 6));
                Due.throwsNone("bracelet(0, -1)", () -> x.bracelet(0, -1));
                for (int far : FAR) {
                    Due.throwsNone("bracelet(" + far + ", 0)", () -> x.bracelet(far, 0));
                    Due.throwsNone("bracelet(0, " + far + ")", () -> x.bracelet(0, far));
                }
            });
            x.parts(1);
            Due.throwsNone("one that is gone", () -> x.bracelet(1, 0));
        });
    }

    private static void promises7And8() {
        Edge.of(7, "COLOUR of a BEAD of a BRACELET.", () -> {
            BeadRings x = Due.stall("abcd", "d", "dcbaaaaaac");
            Due.due("the first", 0, x.bead(0, 0));
            Due.due("the last", 3, x.bead(0, 3));
            Due.due("the only one", 3, x.bead(1, 0));
            Due.due("the first of ten", 3, x.bead(2, 0));
            Due.due("the last of ten", 2, x.bead(2, 9));
        });
        Edge.of(7, "NoSuchElementException: none such.", () -> {
            BeadRings x = Due.lived("abcd", "d");
            Due.nothingChanges(x, () -> {
                Due.throwsNone("bead 4 of four", () -> x.bead(0, 4));
                Due.throwsNone("bead 1 of one", () -> x.bead(1, 1));
                Due.throwsNone("bead -1", () -> x.bead(0, -1));
                Due.throwsNone("bracelet 2 of two", () -> x.bead(2, 0));
                Due.throwsNone("bracelet -1", () -> x.bead(-1, 0));
                for (int far : FAR) {
                    Due.throwsNone("bead " + far, () -> x.bead(0, far));
                    Due.throwsNone("bracelet " + far, () -> x.bead(far, 0));
                }
            });
            x.cuts(0, 0);
            Due.throwsNone("one that was cut", () -> x.bead(0, 3));
        });
        Edge.of(8, "STOCK of a COLOUR.", () -> {
            BeadRings x = new BeadRings();
            x.sheet(2, 4, 97, -33);
            int[] want = {97, 64, 31, 0};
            for (int colour = 0; colour < 4; colour++) {
                Due.due("stock of " + colour, want[colour], x.stock(colour));
            }
        });
        Edge.of(8, "NoSuchElementException: none such.", () -> {
            BeadRings x = Due.lived("abcd");
            Due.nothingChanges(x, () -> {
                Due.throwsNone("-1", () -> x.stock(-1));
                Due.throwsNone("4", () -> x.stock(4));
                for (int far : FAR) {
                    Due.throwsNone("" + far, () -> x.stock(far));
                }
            });
        });
    }

    private static void sheet(String what, int[] call, int want, int... stock) {
        BeadRings x = new BeadRings();
        Due.due(what, want, x.sheet(call[0], call[1], call[2], call[3]));
        Due.stock(what, x, stock);
    }

    private static void promise9() {
        Edge.of(9, "STOCK of COLOURS 0, 1, .., as a sheet tells it:", () -> sheet("1, 2, 3, 4", new int[] {2, 4, 1, 1}, 10, 1, 2, 3, 4));
        Edge.of(9, "bytes (kind 0), shorts (1), ints (2)", () -> {
            sheet("261 as a byte", new int[] {0, 1, 261, 0}, 5, 5, 0, 0, 0);
            sheet("261 as a short", new int[] {1, 1, 261, 0}, 99, 99, 0, 0, 0);
            sheet("65541 as a short", new int[] {1, 1, 65541, 0}, 5, 5, 0, 0, 0);
            sheet("65541 as an int", new int[] {2, 1, 65541, 0}, 99, 99, 0, 0, 0);
            sheet("200 as a short", new int[] {1, 1, 200, 0}, 99, 99, 0, 0, 0);
            sheet("40000 as an int", new int[] {2, 1, 40000, 0}, 99, 99, 0, 0, 0);
        });
        Edge.of(9, "of n entries f, f + step, ..", () -> {
            sheet("none", new int[] {2, 0, 7, 7}, 0, 0, 0, 0, 0);
            sheet("four", new int[] {2, 4, 7, 8}, 76, 7, 15, 23, 31);
            sheet("step 0", new int[] {2, 4, 7, 0}, 28, 7, 7, 7, 7);
            sheet("down", new int[] {2, 4, 30, -10}, 60, 30, 20, 10, 0);
            sheet("ints wrap", new int[] {2, 4, Integer.MAX_VALUE, 1}, 99, 99, 0, 0, 0);
            sheet("ints wrap to the other side", new int[] {2, 2, Integer.MIN_VALUE, -1}, 99, 0, 99, 0, 0);
            sheet("2 ** 30 times 0 .. 3", new int[] {2, 4, 5, 1 << 30}, 104, 5, 99, 0, 0);
            sheet("bytes of far steps", new int[] {0, 4, 1, 257}, 10, 1, 2, 3, 4);
            sheet("shorts of far steps", new int[] {1, 4, 1, 65537}, 10, 1, 2, 3, 4);
        });
        Edge.of(9, "(of bytes, shorts the lowest bits, with their sign;", () -> {
            sheet("127 and 128 as bytes", new int[] {0, 2, 127, 1}, 99, 99, 0, 0, 0);
            sheet("255 and 256 and 257 as bytes", new int[] {0, 3, 255, 1}, 1, 0, 0, 1, 0);
            sheet("-256 and -251 as bytes", new int[] {0, 2, -256, 5}, 5, 0, 5, 0, 0);
            sheet("-129 as a byte", new int[] {0, 1, -129, 0}, 99, 99, 0, 0, 0);
            sheet("32767 and 32768 as shorts", new int[] {1, 2, 32767, 1}, 99, 99, 0, 0, 0);
            sheet("65535, 65536, 65537 as shorts", new int[] {1, 3, 65535, 1}, 1, 0, 0, 1, 0);
            sheet("-65531 as a short", new int[] {1, 1, -65531, 0}, 5, 5, 0, 0, 0);
        });
        Edge.of(9, "put to 0 .. 99),", () -> {
            for (int kind = 0; kind < 3; kind++) {
                sheet("98 .. 101", new int[] {kind, 4, 98, 1}, 98 + 3 * 99, 98, 99, 99, 99);
                sheet("-2 .. 1", new int[] {kind, 4, -2, 1}, 1, 0, 0, 0, 1);
            }
            sheet("far", new int[] {2, 2, Integer.MIN_VALUE, -1}, 99, 0, 99, 0, 0);
        });
        Edge.of(9, "or a missing one (3):", () -> {
            sheet("missing", new int[] {3, 0, 0, 0}, -3, 0, 0, 0, 0);
            sheet("missing, whatever n is", new int[] {3, 4, 9, 9}, -3, 0, 0, 0, 0);
        });
        Edge.of(9, "those behind it have 0:", () -> {
            sheet("one", new int[] {0, 1, 9, 1}, 9, 9, 0, 0, 0);
            sheet("two", new int[] {1, 2, 9, 1}, 19, 9, 10, 0, 0);
            sheet("three", new int[] {2, 3, 9, 1}, 30, 9, 10, 11, 0);
            sheet("none", new int[] {0, 0, 9, 1}, 0, 0, 0, 0, 0);
        });
        Edge.of(9, "the sum of all.", () -> {
            sheet("all 99", new int[] {2, 4, 99, 0}, 396, 99, 99, 99, 99);
            sheet("as they are put", new int[] {2, 4, -50, 100}, 50 + 99 + 99, 0, 50, 99, 99);
        });
    }

    private static void promise9Refused() {
        Edge.of(9, "Can't be undone.", () -> {
            BeadRings x = new BeadRings();
            x.sheet(2, 4, 5, 0);
            Due.due("nothing can be undone", 0, x.count(7));
            Due.due("undo", -1, x.undo());
            Due.stock("it stays", x, 5, 5, 5, 5);
            Due.strings(x, "a");
            x.sheet(2, 4, 9, 0);
            Due.due("the one ahead of it can be", 1, x.count(7));
            Due.due("undo", 0, x.undo());
            Due.stock("as ahead of that one", x, 5, 5, 5, 5);
        });
        Edge.of(9, "-2: n below 0 (of kinds 0 .. 2; nothing changes);", () -> {
            BeadRings x = Due.lived("abca");
            Due.nothingChanges(x, () -> {
                for (int kind = 0; kind < 3; kind++) {
                    Due.due("kind " + kind, -2, x.sheet(kind, -1, 7, 7));
                    Due.due("kind " + kind + ", far", -2, x.sheet(kind, Integer.MIN_VALUE, 7, 7));
                }
            });
            Due.due("of kind 3 it is missing", -3, x.sheet(3, -1, 7, 7));
        });
        Edge.of(9, "-3: missing (all 0).", () -> {
            BeadRings x = Due.stall("abca");
            Due.due("missing", -3, x.sheet(3, 2, 50, 0));
            Due.stock("all 0", x, 0, 0, 0, 0);
            Due.beads("bracelets stay", x, "abca");
        });
        Edge.of(9, "NONE: another kind, n above 4 (these first).", () -> {
            BeadRings x = Due.lived("abca");
            Due.nothingChanges(x, () -> {
                int[][] calls = {{-1, 2}, {4, 2}, {Integer.MIN_VALUE, 2}, {Integer.MAX_VALUE, 2}, {0, 5}, {1, 5}, {2, 5}, {2, Integer.MAX_VALUE},
                    {3, 5}, {4, -1}, {-1, -1}, {4, 5}};
                for (int[] call : calls) {
                    Due.due("sheet(" + call[0] + ", " + call[1] + ")", -1, x.sheet(call[0], call[1], 7, 7));
                }
            });
        });
    }

    public static void main(String[] args) {
        promise1();
        promise2();
        promise3();
        promise4();
        promise5();
        promise6();
        promises7And8();
        promise9();
        promise9Refused();
        Edge.allAreQuoted(1, 9);
        Due.end("EdgesStockTest");
    }
}
