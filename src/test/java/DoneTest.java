/** Promises 10 to 20: what is done to bracelets, days, undo. */
public final class DoneTest {
    private static void rollsAndFlips() {
        BeadRings x = Due.stall("abcd", "a");
        Due.due("rolls by 1", 1, x.rolls(0, 1));
        Due.beads("rolls by 1", x, "bcda", "a");
        Due.due("rolls by 99", 0, x.rolls(0, 99));
        Due.beads("rolls by 99", x, "abcd", "a");
        Due.due("rolls by 0", 0, x.rolls(0, 0));
        Due.due("rolls one bead", 0, x.rolls(1, 57));
        Due.due("rolls by 100", -1, x.rolls(0, 100));
        Due.due("rolls by -1", -1, x.rolls(0, -1));
        Due.due("rolls none such", -1, x.rolls(2, 1));
        Due.due("rolls none such", -1, x.rolls(-1, 1));
        Due.due("rolls can be undone, by 0 too", 6, x.count(7));
        Due.due("flips", 3, x.flips(0));
        Due.beads("flips", x, "dcba", "a");
        Due.due("flips none such", -1, x.flips(2));
        Due.due("flips none such", -1, x.flips(-1));
        Due.due("undone", 7, x.count(7));
    }

    private static void swaps() {
        BeadRings x = Due.stall("abcc", "d");
        Due.due("swaps", 10, x.swaps(0, 0));
        Due.beads("swaps", x, "bacc", "d");
        Due.due("swaps the last", 12, x.swaps(0, 3));
        Due.beads("swaps the last", x, "cacb", "d");
        Due.due("undone", 4, x.count(7));
        Due.due("one bead", -2, x.swaps(1, 0));
        x.undo();
        Due.due("of one colour", -2, x.swaps(0, 2));
        Due.due("none such", -1, x.swaps(0, 4));
        Due.due("none such", -1, x.swaps(0, -1));
        Due.due("none such", -1, x.swaps(2, 0));
        Due.due("none such", -1, x.swaps(-1, 0));
        Due.beads("refused", x, "bacc", "d");
        Due.due("undone", 3, x.count(7));
    }

    private static void threads() {
        BeadRings x = Due.stall("abc");
        Due.due("ahead", 4, x.threads(0, 0, 3));
        Due.due("between", 5, x.threads(0, 2, 3));
        Due.due("behind all", 6, x.threads(0, 5, 1));
        Due.beads("threads", x, "dadbcb");
        Due.stock("threads", x, 11, 10, 11, 10);
        Due.due("too far behind", -1, x.threads(0, 7, 0));
        Due.due("below", -1, x.threads(0, -1, 0));
        Due.due("no colour", -1, x.threads(0, 0, 4));
        Due.due("no colour", -1, x.threads(0, 0, -1));
        Due.due("none such", -1, x.threads(1, 0, 0));
        for (int n = 7; n <= 10; n++) {
            Due.due("more", n, x.threads(0, 1, 0));
        }
        Due.beads("ten", x, "daaaaadbcb");
        Due.due("ten", -2, x.threads(0, 10, 0));
        x.sheet(3, 0, 0, 0);
        Due.due("ten ahead of stock", -2, x.threads(0, 0, 0));
        Due.due("NONE ahead of ten", -1, x.threads(0, 11, 0));
        x.cuts(0, 0);
        Due.due("no stock", -3, x.threads(0, 0, 0));
        Due.due("stock of one", 10, x.threads(0, 9, 3));
        Due.beads("stock of one", x, "aaaaadbcbd");
    }

    private static void cuts() {
        BeadRings x = Due.stall("abcd", "a");
        Due.due("first", 0, x.cuts(0, 0));
        Due.due("last", 3, x.cuts(0, 2));
        Due.beads("cuts", x, "bc", "a");
        Due.stock("cuts", x, 11, 11, 11, 12);
        x.threads(0, 1, 3);
        x.threads(0, 1, 0);
        Due.beads("threaded", x, "badc", "a");
        Due.due("between", 0, x.cuts(0, 1));
        Due.due("between", 3, x.cuts(0, 1));
        Due.beads("between", x, "bc", "a");
        Due.due("only one", -2, x.cuts(1, 0));
        Due.due("none such", -1, x.cuts(1, 1));
        Due.due("none such", -1, x.cuts(0, -1));
        Due.due("none such", -1, x.cuts(2, 0));
        x.sheet(2, 4, 99, 0);
        Due.due("stock is full", 1, x.cuts(0, 0));
        Due.stock("stock is full", x, 99, 99, 99, 99);
        Due.due("undone", 9, x.count(7));
    }

    private static void joins() {
        BeadRings x = Due.stall("ab", "cd", "dd", "aaaaaaaa");
        Due.due("joins", 4, x.joins(2, 0));
        Due.beads("joins, the lesser gone", x, "cd", "ddab", "aaaaaaaa");
        Due.due("joins", 6, x.joins(0, 1));
        Due.beads("joins, the greater gone", x, "cdddab", "aaaaaaaa");
        Due.due("too many", -2, x.joins(0, 1));
        Due.due("like ones", -1, x.joins(0, 0));
        Due.due("like ones ahead of too many", -1, x.joins(1, 1));
        Due.due("none such", -1, x.joins(0, 2));
        Due.due("none such", -1, x.joins(2, 0));
        Due.due("none such", -1, x.joins(-1, 0));
        x.undo();
        x.undo();
        Due.beads("undone", x, "ab", "cd", "dd", "aaaaaaaa");
        Due.due("just ten", 10, x.joins(3, 1));
        Due.beads("just ten", x, "ab", "dd", "aaaaaaaacd");
    }

    private static void alikeOnesCanBeJoined() {
        BeadRings x = Due.stall("abc", "bca");
        Due.due("joins of ALIKE ones", 6, x.joins(0, 1));
        Due.beads("joins of ALIKE ones", x, "abcbca");
    }

    private static void partsAndSells() {
        BeadRings x = Due.stall("abcd", "aab", "aba", "d");
        Due.due("parts", 4, x.parts(0));
        Due.beads("parts", x, "aab", "aba", "d");
        Due.stock("parts", x, 8, 10, 12, 11);
        Due.due("parts none such", -1, x.parts(3));
        Due.due("parts none such", -1, x.parts(-1));
        x.sheet(2, 4, 98, 0);
        Due.due("parts to the full", 3, x.parts(0));
        Due.stock("parts to the full", x, 99, 99, 98, 98);
        Due.due("sells none such", -1, x.sells(2));
        Due.due("sells none such", -1, x.sells(-1));
        Due.due("sells", 7, x.sells(0));
        Due.due("purse", 7, x.count(3));
        Due.beads("sells", x, "d");
        Due.stock("sells", x, 99, 99, 98, 98);
        Due.rule(x, "0-1");
        Due.due("sells for nothing", 0, x.sells(0));
        Due.due("purse", 7, x.count(3));
        Due.due("all are undone", 8, x.count(7));
    }

    private static void sellsAlikeOnes() {
        BeadRings x = Due.stall("aab", "aba", "abb");
        Due.rule(x, "h+10");
        Due.due("with one alike", 11, x.sells(0));
        Due.due("with none alike", 10, x.sells(0));
        Due.due("purse", 21, x.count(3));
    }

    private static void fullPurse() {
        BeadRings x = new BeadRings();
        Due.rule(x, "999");
        for (int i = 1; i <= 101; i++) {
            x.sheet(2, 4, 99, 0);
            x.sign(0x61626364);
            x.strings();
            Due.due("sells", 99, x.sells(0));
        }
        Due.due("purse", 9999, x.count(3));
        Due.strings(x, "b");
        Due.due("sells", 99, x.sells(0));
        Due.due("purse that is full", 9999, x.count(3));
    }

    private static void buys() {
        BeadRings x = Due.stall("abcd");
        Due.due("no purse", -2, x.buys(0, 1));
        x.sells(0);
        Due.due("purse", 12, x.count(3));
        Due.due("buys", 20, x.buys(0, 9));
        Due.due("purse", 3, x.count(3));
        Due.due("too dear", -2, x.buys(0, 4));
        x.sheet(2, 4, 97, 0);
        Due.due("purse ahead of stock", -2, x.buys(0, 4));
        Due.due("too many", -3, x.buys(0, 3));
        Due.due("just so many", 99, x.buys(3, 2));
        Due.due("purse", 1, x.count(3));
        Due.due("no colour", -1, x.buys(4, 1));
        Due.due("no colour", -1, x.buys(-1, 1));
        Due.due("none", -1, x.buys(0, 0));
        Due.due("ten", -1, x.buys(0, 10));
        Due.due("all of it", 98, x.buys(1, 1));
        Due.due("purse", 0, x.count(3));
    }

    private static void days() {
        BeadRings x = Due.stall("abcd", "aab", "c");
        Due.due("each act", 9, Due.day(x, "r01f1x00t04bc00j02u1s0ba9"));
        Due.row("each act", x, 0, 0);
        // bcda, baa; cbda; cbdab, bdab; bdabc; baa apart; 5 + 4 * 2 for the other one
        Due.stock("each act", x, 9 + 2 + 9, 10 - 1 + 1, 10 + 1, 11);
        Due.due("purse", 13 - 9, x.count(3));
        Due.due("as one", 4, x.count(7));
        Due.due("undone", 3, x.undo());
        Due.beads("undone", x, "abcd", "aab", "c");
        Due.due("undone purse", 0, x.count(3));
        Due.due("till one is refused", 2, Due.day(x, "f0r01u5f1"));
        Due.row("till one is refused", x, 1, 3);
        Due.beads("till one is refused", x, "cbad", "aab", "c");
        Due.due("as one", 4, x.count(7));
        Due.due("refused at first", 0, Due.day(x, "u7f0"));
        Due.row("refused at first", x, 1, 3);
        Due.due("none that could be undone", 4, x.count(7));
        Due.due("nothing", 0, Due.day(x, ""));
        Due.row("nothing", x, 0, 3);
        Due.due("none that could be undone", 4, x.count(7));
        Due.due("-2 is refused too", 0, Due.day(x, "x10"));
        Due.row("-2 is refused too", x, 1, 3);
        Due.due("one act", 1, Due.day(x, "t20d"));
        Due.due("one act can be undone", 5, x.count(7));
        Due.due("one act and one refused", 1, Due.day(x, "s2bd9"));
        Due.due("they can be undone", 6, x.count(7));
        Due.row("one act and one refused", x, 1, 2);
        Due.due("buys d", 1, Due.day(x, "bd1"));
    }

    private static void dayFaults() {
        BeadRings x = Due.stall("abcd");
        String[] texts = {
            "q", "r", "r0", "r0a", "ra", "f", "fx", "f0f", "x00x", "t00", "t00e", "t0", "t00a1", "b", "b0", "ba", "ba0", "baa",
            "c0 ", "j", "u", "s", "f0q", "f0 f0", "R00", "b0a"};
        int[] answers = {
            -1, -2, -3, -3, -2, -2, -2, -4, -5, -4, -4, -3, -5, -2, -2, -3, -3, -3,
            -3, -2, -2, -2, -3, -3, -1, -2};
        x.kinds();
        for (int i = 0; i < texts.length; i++) {
            Due.due("day " + texts[i], answers[i], Due.day(x, texts[i]));
            Due.due("text emptied by " + texts[i], 0, x.count(9));
            Due.row("row stays with " + texts[i], x, 0);
            Due.beads("nothing is done by " + texts[i], x, "abcd");
        }
        Due.due("60 signs", 30, Due.day(x, "f0".repeat(30)));
        Due.due("61 signs, could end", -61, Due.day(x, "f0".repeat(30) + "f"));
        Due.due("61 signs, a fault at 60", -61, Due.day(x, "f0".repeat(30) + "?"));
        Due.due("62 signs, could go on", -61, Due.day(x, "f0".repeat(28) + "r00" + "f0f"));
        Due.due("80 signs, a fault ahead", -60, Due.day(x, "f0".repeat(29) + "f" + "f0".repeat(10)));
        Due.due("60 signs, ends too early", -61, Due.day(x, "r00" + "f0".repeat(28) + "f"));
        Due.due("undone", 2, x.count(7));
    }

    private static void undo() {
        BeadRings x = new BeadRings();
        Due.due("none", -1, x.undo());
        Due.strings(x, "abcd");
        for (int i = 0; i < 20; i++) {
            x.rolls(0, 1);
        }
        Due.due("no more than 15", 15, x.count(7));
        for (int i = 14; i >= 0; i--) {
            Due.due("left", i, x.undo());
        }
        Due.beads("the latest 15 are undone", x, "bcda");
        Due.due("none left", -1, x.undo());
        x.flips(0);
        Due.due("one again", 1, x.count(7));
        Due.due("refused ones are not kept", -1, x.flips(3));
        Due.due("undo", 0, x.undo());
        Due.beads("undo", x, "bcda");
    }

    private static void undoLeavesOthers() {
        BeadRings x = Due.stall("abcd");
        Due.rule(x, "n");
        x.felt(1, 1);
        x.heard(0, 1);
        x.many(6, 2);
        x.sign(1);
        Due.due("undo", 0, x.undo());
        Due.due("felt stays", 1, x.count(5));
        Due.due("heard stays", 1, x.count(6));
        Due.row("row stays", x, 14, 9);
        Due.due("text stays", 4, x.count(9));
        Due.strings(x, "aab");
        Due.due("rule stays", 3, x.count(4));
    }

    public static void main(String[] args) {
        rollsAndFlips();
        swaps();
        threads();
        cuts();
        joins();
        alikeOnesCanBeJoined();
        partsAndSells();
        sellsAlikeOnes();
        fullPurse();
        buys();
        days();
        dayFaults();
        undo();
        undoLeavesOthers();
        Due.end("DoneTest");
    }
}
