/** The section "Terms", sentence by sentence. */
public final class EdgesTermsTest {
    private static void edge(String words, Due.Calls test) {
        Edge.of(Edge.TERMS, words, test);
    }

    private static void beads() {
        edge("COLOURS 0 .. 3 (a .. d).", () -> {
            BeadRings x = Due.stall("abcd");
            for (int colour = 0; colour < 4; colour++) {
                Due.due("bead " + colour, colour, x.bead(0, colour));
                Due.due("stock of " + colour, 11, x.stock(colour));
            }
            Due.throwsNone("stock(-1)", () -> x.stock(-1));
            Due.throwsNone("stock(4)", () -> x.stock(4));
            Due.due("the sign ahead of a", -1, Due.strings(x, "`"));
            Due.due("the sign behind d", -1, Due.strings(x, "e"));
        });
        edge("BRACELETS 0, 1, .. (at most 5):", () -> {
            BeadRings x = Due.stall("a", "b", "c", "d", "ab");
            Due.due("a sixth", -100, Due.strings(x, "a"));
            Due.due("five", 5, x.count(0));
            Due.due("the last one", 2, x.bracelet(4, 0));
            Due.throwsNone("bracelet 5", () -> x.bracelet(5, 0));
        });
        edge("each a row of 1 to 10 BEADS", () -> {
            BeadRings x = Due.stall("a", "abcdabcdab");
            Due.due("no bead", -1, Due.strings(x, ""));
            Due.due("eleven beads", -11, Due.strings(x, "abcdabcdabc"));
            Due.due("threads to eleven", -2, x.threads(1, 0, 0));
            Due.due("cuts to none", -2, x.cuts(0, 0));
            Due.due("joins to eleven", -2, x.joins(0, 1));
            Due.beads("one and ten", x, "a", "abcdabcdab");
        });
        edge("(0, 1, .., from the clasp on), each of a COLOUR;", () -> {
            BeadRings x = Due.stall("dacbbcadac");
            int[] colours = {3, 0, 2, 1, 1, 2, 0, 3, 0, 2};
            for (int i = 0; i < 10; i++) {
                Due.due("bead " + i, colours[i], x.bead(0, i));
            }
        });
        edge("behind the last one comes BEAD 0 again.", () -> {
            BeadRings x = Due.stall("abca", "ddddddddda");
            Due.due("ab of the last one on", 8, Due.finds(x, 0, "aa"));
            Due.due("the last of ten", 1 << 9, Due.finds(x, 1, "ad"));
            Due.due("swaps the last one", 30, x.swaps(1, 9));
            Due.beads("swapped with 0", x, "abca", "addddddddd");
        });
    }

    private static void stockAndPurse() {
        edge("STOCK: BEADS of each COLOUR 0 .. 99 (at first 12 each).", () -> {
            BeadRings x = new BeadRings();
            Due.stock("at first", x, 12, 12, 12, 12);
            x.sheet(2, 4, 1, 98);
            Due.stock("no more than 99", x, 1, 99, 99, 99);
            Due.due("the last a", 0, Due.strings(x, "a"));
            Due.due("no a is left", -101, Due.strings(x, "a"));
            Due.due("none below 0", 0, x.stock(0));
            x.sheet(2, 4, 99, 0);
            x.parts(0);
            Due.stock("a hundredth is not kept", x, 99, 99, 99, 99);
        });
        edge("PURSE 0 .. 9999 (no more is counted; at first 0).", () -> {
            BeadRings x = new BeadRings();
            Due.due("at first", 0, x.count(3));
            Due.due("nothing to buy for", -2, x.buys(0, 1));
            Due.rule(x, "999");
            for (int sold = 1; sold <= 103; sold++) {
                x.sheet(2, 1, 4, 0);
                x.sign(0x61616161);
                x.strings();
                Due.due("sells", 99, x.sells(0));
                if (sold >= 101) {
                    Due.due("purse behind " + sold, 9999, x.count(3));
                }
            }
        });
        edge("PURSE 0 .. 9999 (no more is counted; at first 0).", () -> {
            BeadRings x = new BeadRings();
            Due.rule(x, "98");
            for (int sold = 1; sold <= 102; sold++) {
                x.sheet(2, 1, 4, 0);
                x.sign(0x61616161);
                x.strings();
                x.sells(0);
            }
            Due.due("one less than 9999 + 98 - 100", 9996, x.count(3));
            x.sheet(2, 1, 4, 0);
            Due.rule(x, "3");
            Due.strings(x, "a");
            x.sells(0);
            Due.due("just 9999", 9999, x.count(3));
            Due.strings(x, "a");
            Due.due("its price is told all the same", 3, x.sells(0));
            Due.due("and is not counted", 9999, x.count(3));
        });
    }

    private static void turnings() {
        edge("A BRACELET is ROLLED by n: its row begins with BEAD n (rest by how many there are), all else in turn.", () -> {
            String[] want = {"abcd", "bcda", "cdab", "dabc", "abcd", "bcda"};
            for (int n = 0; n < want.length; n++) {
                BeadRings x = Due.stall("abcd");
                x.rolls(0, n);
                Due.beads("rolled by " + n, x, want[n]);
            }
            BeadRings x = Due.stall("abcdabcdad", "b");
            x.rolls(0, 99);
            x.rolls(1, 99);
            Due.beads("rolled by 99", x, "dabcdabcda", "b");
        });
        edge("It is FLIPPED: its row is read from the last one to the first.", () -> {
            BeadRings x = Due.stall("abcd", "b", "ab", "abc", "ddaabbccab");
            for (int b = 0; b < 5; b++) {
                x.flips(b);
            }
            Due.beads("flipped", x, "dcba", "b", "ba", "cba", "baccbbaadd");
        });
        edge("Two are ALIKE, if one can be ROLLED, or FLIPPED and then ROLLED, so that it is the other one.", () -> {
            BeadRings x = Due.stall("aabc", "bcaa", "baac", "abac", "aabbc");
            int[] others = {2, 2, 2, 0, 0};
            for (int b = 0; b < 5; b++) {
                Due.due("others alike to " + b, others[b], x.bracelet(b, 5));
            }
            BeadRings y = Due.stall("a", "aa", "ab", "aab", "abab");
            for (int b = 0; b < 5; b++) {
                Due.due("not as many beads: alike to " + b, 0, y.bracelet(b, 5));
            }
        });
        edge("The LEAST ROW of one is the least row of COLOURS that it can be so.", () -> {
            BeadRings x = Due.stall("dcba", "baba", "cab", "d", "bbaabababa");
            long[][] want = {{0, 1, 2, 3}, {0, 1, 0, 1}, {0, 1, 2}, {3}, {0, 0, 1, 0, 1, 0, 1, 0, 1, 1}};
            for (int b = 0; b < 5; b++) {
                x.least(b);
                Due.row("least row of " + b, x, want[b]);
            }
        });
        edge("A KIND is all that have one LEAST ROW.", () -> {
            Due.due("of one kind", 1, Due.stall("aabc", "caab", "cbaa", "baac", "abca").kinds());
            Due.due("of five kinds", 5, Due.stall("a", "b", "aa", "ab", "aab").kinds());
        });
    }

    private static int price(String rule, String... bracelets) {
        BeadRings x = Due.stall(bracelets);
        Due.due("rule " + rule, 0, Due.rule(x, rule));
        return x.bracelet(0, 4);
    }

    private static void prices(String[] rules, int... want) {
        for (int i = 0; i < want.length; i++) {
            Due.due("price by " + rules[i], want[i], price(rules[i], "abca"));
        }
        Due.due("rules", want.length, rules.length);
    }

    private static void refused(String rule, int want) {
        Due.due("rule " + rule, want, Due.rule(new BeadRings(), rule));
    }

    private static void operators() {
        edge("THE RULE is a text of at most 40 signs (at first none: n+c*2).", () -> {
            Due.due("at first", 4 + 3 * 2, Due.stall("abca").bracelet(0, 4));
            Due.due("40 signs", 1, price("-".repeat(38) + "01", "a"));
            Due.due("39 signs", 0, price("-".repeat(37) + "01", "a"));
            refused("-".repeat(39) + "01", -41);
        });
        edge("EXPRESSION: < > = bind least (two; 1 or 0;", () -> {
            prices(new String[] {"1<2", "2<2", "3<2", "1>2", "2>2", "3>2", "1=2", "2=2", "3=2"}, 1, 0, 0, 0, 0, 1, 0, 1, 0);
            prices(new String[] {"(1<2)+5", "(2<1)+5", "(3>2)+5", "(2>3)+5", "(2=2)+5", "(2=3)+5"}, 6, 5, 6, 5, 6, 5);
            prices(new String[] {"1+1=2", "1=2-1", "2*2>3", "5<2*3", "-3<-2", "0-1<0", "6/2=3", "1<2+90"}, 1, 1, 1, 1, 1, 1, 1, 1);
            refused("1<", -3);
            refused("<1", -1);
            refused("=", -1);
            refused("1<=2", -3);
        });
        edge("not one behind the other),", () -> {
            refused("1<2<3", -4);
            refused("1<2>3", -4);
            refused("1<2=3", -4);
            refused("1=2+3=4", -6);
            refused("(1<2<3)", -5);
            refused("1<(2<3)<4", -8);
            refused("(1<2)<(3<4)<5", -12);
            prices(new String[] {"(1<2)<3", "3>(1<2)", "(1<2)=(3<4)", "((1<2)<3)+(4>5)", "(1<2)+(3=3)*(4>2)"}, 1, 1, 1, 1, 2);
        });
        edge("then + - (from the left),", () ->
            prices(new String[] {"9-3-2", "9-3+2", "9+3-2", "1-2+3", "9-(3-2)", "2+3*4", "2*3-4", "20-6/3"}, 4, 8, 10, 2, 8, 14, 2, 18));
        edge("then * / (from the left;", () ->
            prices(new String[] {"90/7/2", "7/2*2", "2*7/4", "90/(7/2)", "3*4/5*2", "9/-2*2+20"}, 6, 6, 3, 30, 4, 12));
        edge("by 0: 0;", () ->
            prices(new String[] {"7/0", "7/0+3", "0/0+5", "9-8/0", "7/(3-3)", "n/(n-n)", "8/0/0", "7/0*9", "-7/0+1"}, 0, 3, 5, 9, 0, 0, 0, 0, 1));
        edge("cut to 0),", () ->
            prices(new String[] {"7/2", "-7/2+9", "7/-2+9", "-7/-2", "1/2", "-1/2+9", "0-7/2+9", "99/100"}, 3, 6, 6, 3, 0, 9, 6, 0));
        edge("then - ahead of a thing (any many);", () -> {
            prices(new String[] {"-5+9", "--5", "---5+9", "2*-3+9", "9/-3+9", "9--3", "9+-3", "-n+9", "--(2+3)", "-(2-9)"}, 4, 5, 4, 3, 6, 12, 6, 5, 5, 7);
            prices(new String[] {"-2*-3", "-2+3", "1=--1", "-(1<2)+9", "(-(-(-(-3))))"}, 6, 1, 1, 8, 3);
            refused("-", -2);
            refused("---", -4);
            refused("n-", -3);
            refused("-+n", -2);
        });
    }

    private static void things() {
        edge("things: a NUMBER of 1 to 3 digits,", () -> {
            prices(new String[] {"7", "42", "042", "007", "0", "000", "999-990", "100-1"}, 7, 42, 42, 7, 0, 0, 9, 99);
            refused("1234", -4);
            refused("0001", -4);
            refused("n+1234", -6);
            refused("12+3456", -7);
            refused("1 2", -2);
            refused("12n", -3);
            refused("n12", -2);
            refused("(1)2", -4);
        });
        edge("an EXPRESSION in ( ) (at most 4 in one another),", () -> {
            prices(new String[] {"(7)", "((((7))))", "(2+3)*4", "((2+3)*(4-1))", "((((1))))+((((2))))", "(1)+(2)+(3)+(4)+(5)+(6)"}, 7, 7, 20, 15, 3, 21);
            refused("(((((7)))))", -5);
            refused("((((7))))+(((((7", -15);
            refused("(1+(1+(1+(1+(1", -13);
            refused("-(-(-(-(-(1", -10);
            refused("()", -2);
            refused("(7", -3);
            refused("((7)", -5);
            refused("7)", -2);
            refused("(7))", -4);
            refused("(7)(7)", -4);
            refused("7(7)", -2);
            refused(")", -1);
        });
        edge("and, of a BRACELET: n how many BEADS it has, c how many COLOURS,", () -> {
            Due.due("n of one", 1, price("n", "d"));
            Due.due("n of ten", 10, price("n", "abcdabcdab"));
            Due.due("c of one", 1, price("c", "dddd"));
            Due.due("c of four", 4, price("c", "dcba"));
            Due.due("c of a and d", 2, price("c", "dada"));
        });
        edge("t the fewest (1 or more) by which it can be ROLLED and is as it was,", () -> {
            String[] bracelets = {"a", "aa", "ab", "abab", "aabb", "abcabc", "aaaaaaaaaa", "abababababa".substring(1), "aabaab", "aaaaaaaaab", "abcdaabcda"};
            int[] want = {1, 1, 2, 2, 4, 3, 1, 2, 3, 10, 5};
            for (int i = 0; i < want.length; i++) {
                Due.due("t of " + bracelets[i], want[i], price("t", bracelets[i]));
            }
        });
        edge("f by how many of 0, 1, .. n - 1 it can be ROLLED, FLIPPED ahead of it, and is as it was,", () -> {
            String[] bracelets = {"a", "aa", "ab", "aaa", "abab", "aabb", "abc", "abca", "aab", "aabbcc", "aaaaaaaaaa", "abcdabcdab"};
            int[] want = {1, 2, 1, 3, 2, 1, 0, 0, 1, 0, 10, 0};
            for (int i = 0; i < want.length; i++) {
                Due.due("f of " + bracelets[i], want[i], price("f", bracelets[i]));
            }
        });
        edge("m the most BEADS of one COLOUR,", () -> {
            Due.due("m of one", 1, price("m", "c"));
            Due.due("m of abcd", 1, price("m", "abcd"));
            Due.due("m of d", 3, price("m", "daddbba"));
            String[] bracelets = {"bba", "bbba", "bbbc", "cccb", "ddda", "abbb", "baaab"};
            int[] want = {2, 3, 3, 3, 3, 3, 3};
            for (int i = 0; i < want.length; i++) {
                Due.due("m of " + bracelets[i], want[i], price("m", bracelets[i]));
            }
            Due.due("m of ten", 10, price("m", "bbbbbbbbbb"));
        });
        edge("d how many BEADS are of another COLOUR than the one behind (around; of one BEAD: 0),", () -> {
            String[] bracelets = {"a", "d", "aa", "ab", "aab", "abc", "abab", "aabb", "abca", "cdddddddd"};
            int[] want = {0, 0, 0, 2, 2, 3, 4, 2, 3, 2};
            for (int i = 0; i < want.length; i++) {
                Due.due("d of " + bracelets[i], want[i], price("d", bracelets[i]));
            }
        });
        edge("h how many others are ALIKE.", () -> {
            Due.due("none else", 0, price("h", "abca"));
            Due.due("others that are not", 0, price("h", "ab", "a", "abab", "ac"));
            Due.due("four others", 4, price("h", "abca", "caab", "acba", "aabc", "abca"));
        });
    }

    private static void numbers() {
        edge("As ints, put to 0 .. 99: PRICE.", () -> {
            prices(new String[] {"0-1", "-999", "99", "100", "999", "98+1", "99+1", "0"}, 0, 0, 99, 99, 99, 99, 99, 0);
            int power = 999 * 999 * 999;
            prices(new String[] {"999*999*999*999", "999*999*999*8"}, put(999 * power), put(8 * power));
            prices(new String[] {"256*256*256*128<0", "256*256*256*256", "256*256*256*256+7", "256*256*256*128-1>0"}, 1, 0, 7, 1);
            prices(new String[] {"256*256*256*128/-1<0", "-(256*256*256*128)<0", "256*256*256*128*-1=256*256*256*128"}, 1, 1, 1);
        });
    }

    private static int put(int price) {
        return price < 0 ? 0 : price > 99 ? 99 : price;
    }

    private static void rows() {
        edge("ROW: numbers told last by a call that says so.", () -> {
            BeadRings x = Due.stall("abca", "abab");
            Due.row("at first", x);
            x.many(6, 2);
            x.kinds();
            Due.row("told last", x, 0, 1);
            x.rank(0);
            x.rolls(0, 1);
            x.felt(0, 0);
            x.heard(0, 1);
            x.undo();
            x.keep(0);
            x.again(0);
            Due.rule(x, "n");
            x.sheet(0, 4, 9, 9);
            x.bracelet(0, 4);
            Due.strings(x, "a");
            Due.row("of calls that tell none", x, 0, 1);
            x.twice(2);
            Due.row("nothing is a row, too", x);
        });
        edge("Sets are bits.", () -> {
            BeadRings x = Due.stall("bd", "abab", "a");
            Due.due("colours", 2 | 8, x.bracelet(0, 1));
            Due.due("places", 1 | 4, Due.finds(x, 1, "a"));
            Due.due("rolls", 15, x.guess(1));
            Due.due("bracelets", 7, x.fits());
            Due.due("all of ten", 1023, Due.finds(Due.stall("aaaaaaaaaa"), 0, "aaaaaaaaaa"));
        });
        edge("Rows are compared from the first number on.", () -> {
            BeadRings x = Due.stall("adda", "cbbc");
            x.least(0);
            Due.row("0 0 3 3 is less than 0 3 3 0", x, 0, 0, 3, 3);
            x.least(1);
            Due.row("1 1 2 2 is less than 2 1 1 2", x, 1, 1, 2, 2);
            x.bargains(10);
            Due.row("1 and 9 are less than 2 and 8", x, 1, 9);
        });
        edge("Fractions are told in lowest terms, upper and lower number (0 by 1).", () -> {
            // No odds are 0 (the bracelet's own row is one of those that come), so 0 by 1 is not told by any call.
            BeadRings x = Due.stall("abab", "aabb", "a", "aaab", "abcdabcdab");
            long[][] want = {{1, 3}, {2, 3}, {1, 1}, {1, 1}, {1, 1260}};
            for (int b = 0; b < 5; b++) {
                x.odds(b);
                Due.row("odds of " + b, x, want[b]);
            }
        });
    }

    private static void questions() {
        edge("Questions change nothing.", () -> {
            BeadRings x = Due.lived("abca", "abab", "caab");
            Due.onlyTextAndRowChange(x, () -> {
                x.least(0);
                x.alike(0, 2);
                x.far(0, 1);
                x.words(0, 2);
                x.twice(0);
                x.arc(0);
                x.rank(0);
                x.next(0);
                x.odds(0);
                x.guess(0);
                x.feels(0);
                x.made(7);
                x.dear(6);
                x.years(1, 60);
            });
            Due.onlyTextAndRowChange(x, () -> {
                x.kinds();
                x.many(10, 4);
                x.nth(7, 4, 999);
                x.once(4, 2);
                x.fits();
                x.asks();
                x.ring(40);
                x.bargains(18);
            });
            Due.due("THE TEXT is as it was", 4, x.count(9));
            Due.onlyTextAndRowChange(x, () -> {
                Due.finds(x, 0, "ab");
                Due.ways(x, "aabb");
                Due.law(x, "n*n");
            });
            Due.due("what was felt is as it was", 1, x.guess(0));
        });
        edge("A TURNING is told as n (ROLLED by n, 0 .. 9) or 100 and n (FLIPPED, then ROLLED by n);", () -> {
            String[] ones = {"abcd", "abcd", "abcd", "abcd", "abcddddddd", "abcddddddd", "abcddddddd"};
            String[] others = {"dabc", "dcba", "cbad", "adcb", "dabcdddddd", "dddddddcba", "adddddddcb"};
            int[] want = {3, 100, 101, 103, 9, 100, 109};
            for (int i = 0; i < want.length; i++) {
                BeadRings x = new BeadRings();
                x.sheet(2, 4, 99, 0);
                Due.strings(x, ones[i]);
                Due.strings(x, others[i]);
                Due.due(ones[i] + " is " + others[i], want[i], x.alike(0, 1));
                x.far(0, 1);
                Due.row("as far() tells it", x, want[i]);
            }
        });
        edge("the least one, if there are several.", () -> {
            BeadRings x = Due.stall("abab", "baba", "aaaa", "bbab", "bbba");
            Due.due("0 and 2, 101 and 103", 0, x.alike(0, 0));
            Due.due("1 and 3, 100 and 102", 1, x.alike(0, 1));
            Due.due("all eight", 0, x.alike(2, 2));
            Due.due("least: 1 and 3", 1, x.least(1));
            Due.due("rolled ahead of flipped", 3, x.alike(3, 4));
            x.far(0, 2);
            Due.row("as far by each", x, 0);
        });
    }

    private static void refusals() {
        edge("Refused calls answer NONE, or false, and change nothing but THE TEXT,", () -> {
            BeadRings x = Due.lived("abca");
            Due.nothingChanges(x, () -> {
                Due.due("end", false, x.end(5));
                Due.due("rolls", -1, x.rolls(1, 1));
                Due.due("joins", -1, x.joins(0, 0));
                Due.due("buys", -1, x.buys(4, 1));
                Due.due("sheet", -1, x.sheet(4, 1, 1, 1));
                Due.due("felt", -1, x.felt(10, 0));
                Due.due("heard", -1, x.heard(4, 1));
                Due.due("keep", false, x.keep(3));
                Due.due("again", false, x.again(0));
                Due.due("years", -1, x.years(1, 61));
                Due.due("many", -1, x.many(11, 1));
                Due.due("least", -1, x.least(1));
            });
            BeadRings y = new BeadRings();
            Due.nothingChanges(y, () -> Due.due("undo", -1, y.undo()));
            for (int i = 0; i < 20; i++) {
                y.sign(0x61626364);
            }
            Due.nothingChanges(y, () -> Due.due("sign", -1, y.sign(0)));
        });
        edge("which a call that reads it empties.", () -> {
            BeadRings x = Due.lived("abca");
            Due.onlyTextIsEmptied(x, () -> {
                Due.due("strings", -2, Due.strings(x, "ax"));
                Due.due("rule", -2, Due.rule(x, "nn"));
                Due.due("day", -3, Due.day(x, "f0q"));
                Due.due("finds", -100, Due.finds(x, 1, "a"));
                Due.due("ways", -1, Due.ways(x, "e"));
                Due.due("law", -10000, Due.law(x, "+"));
            });
        });
        edge("which a call that reads it empties.", () -> {
            BeadRings x = Due.lived("abca");
            Due.due("strings", 1, Due.strings(x, "abcd"));
            Due.due("rule", 0, Due.rule(x, "n"));
            Due.due("day", 1, Due.day(x, "f0"));
            Due.due("day of which one was refused", 0, Due.day(x, "f9f0"));
            Due.due("finds", 1, Due.finds(x, 1, "a"));
            Due.due("ways", 2, Due.ways(x, "aabb"));
            Due.due("law", 24, Due.law(x, "n*n"));
            Due.due("strings of eleven", -11, Due.strings(x, "aaaaaaaaaaa"));
            Due.due("rule of 41", -41, Due.rule(x, "-".repeat(41)));
            Due.due("day of 61", -61, Due.day(x, "f0".repeat(30) + "f"));
            Due.due("finds of eleven", -11, Due.finds(x, 0, "aaaaaaaaaaa"));
            Due.due("ways of eleven", -11, Due.ways(x, "aaaaaaaaaaa"));
            Due.due("law of 41", -10040, Due.law(x, "-".repeat(41)));
        });
    }

    private static void none() {
        edge("NONE comes ahead of other answers below 0;", () -> {
            BeadRings x = Due.lived("aaaaaaaaaa", "b");
            x.sheet(3, 0, 0, 0);
            Due.nothingChanges(x, () -> {
                Due.due("sheet: another kind, and n below 0", -1, x.sheet(4, -1, 0, 0));
                Due.due("sheet: above 4, and missing", -1, x.sheet(3, 5, 0, 0));
                Due.due("threads: too far, and ten", -1, x.threads(0, 11, 0));
                Due.due("threads: no colour, and ten", -1, x.threads(0, 0, 4));
                Due.due("threads: too far, and no stock", -1, x.threads(1, 2, 0));
                Due.due("cuts: none such, and the only one", -1, x.cuts(1, 1));
                Due.due("joins: like ones, and too many", -1, x.joins(0, 0));
                Due.due("buys: no colour, and no purse", -1, new BeadRings().buys(4, 1));
                Due.due("buys: ten, and no purse", -1, new BeadRings().buys(0, 10));
                Due.due("alike: none such", -1, x.alike(0, 2));
                Due.due("far: none such", -1, x.far(2, 0));
                Due.due("nth: others, and not so many", -1, x.nth(8, 1, 5));
            });
            Due.nothingChanges(x, () -> {
                Due.due("nth: k, and not so many", -1, x.nth(3, 5, 999));
                Due.due("nth: above 999, and not so many", -1, x.nth(1, 1, 1000));
                Due.due("dear: another n, and none could", -1, x.dear(7));
                Due.due("rank: none such", -1, x.rank(2));
                Due.due("next: none such", -1, x.next(2));
                Due.due("feels: none such", -1, x.feels(2));
            });
        });
        edge("the ROW stays with each answer below 0 that tells of a refusal, or that there is none.", () -> {
            BeadRings x = Due.lived("aaaaaaaa", "bb");
            x.sheet(3, 0, 0, 0);
            x.felt(0, 3);
            x.heard(2, 9);
            Due.nothingChanges(x, () -> {
                Due.due("alike by none", -2, x.alike(0, 1));
                Due.due("far, not as many", -2, x.far(0, 1));
                Due.due("nth, not so many", -2, x.nth(1, 1, 1));
                Due.due("rank of more than 7", -2, x.rank(0));
                Due.due("next of the last one", -2, x.next(1));
                Due.due("next of more than 7", -3, x.next(0));
                Due.due("dear, none could", -2, x.dear(3));
                Due.due("feels, none is left", -2, x.feels(0));
                Due.due("asks, none fits", -2, x.asks());
                Due.due("swaps of one colour", -2, x.swaps(0, 0));
                Due.due("least of none such", -1, x.least(2));
                Due.due("bargains of another", -1, x.bargains(19));
            });
            Due.onlyTextIsEmptied(x, () -> {
                Due.due("finds, no such bracelet", -100, Due.finds(x, 2, "a"));
                Due.due("finds, longer", -101, Due.finds(x, 1, "bbb"));
                Due.due("ways of none", -1, Due.ways(x, ""));
                Due.due("law that ends too early", -10002, Due.law(x, "n+"));
                Due.due("day that ends too early", -2, Due.day(x, "f"));
            });
            Due.row("it stays", x, 14, 9);
            Due.due("an answer below 0 that is a number tells its ROW", 2 - 14, Due.law(x, "1"));
            Due.row("both", x, 2, 14);
        });
    }

    public static void main(String[] args) {
        beads();
        stockAndPurse();
        turnings();
        operators();
        things();
        numbers();
        rows();
        questions();
        refusals();
        none();
        Edge.allAreQuoted(Edge.TERMS, Edge.TERMS);
        Due.end("EdgesTermsTest");
    }
}
