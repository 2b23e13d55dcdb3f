/** Promises 1 to 9: a new object, texts, strings, rule, what is told of bracelets and stock, sheets. */
public final class StockTest {
    private static void newObject() {
        BeadRings x = new BeadRings();
        Due.due("NONE", -1, BeadRings.NONE);
        Due.stock("new", x, 12, 12, 12, 12);
        int[] counts = {0, 0, 48, 0, 0, 0, 0, 0, 0, 0};
        for (int what = 0; what < counts.length; what++) {
            Due.due("new count(" + what + ")", counts[what], x.count(what));
        }
        Due.row("new", x);
    }

    private static void signs() {
        BeadRings x = new BeadRings();
        for (int i = 1; i <= 20; i++) {
            Due.due("sign", 4 * i, x.sign(0x61626364));
        }
        Due.due("sign beyond 80", -1, x.sign(0x61626364));
        Due.due("count(9)", 80, x.count(9));
        Due.due("end(-1)", false, x.end(-1));
        Due.due("end(81)", false, x.end(81));
        Due.due("end(80)", true, x.end(80));
        Due.due("end(77)", true, x.end(77));
        Due.due("sign with three more", -1, x.sign(0));
        Due.due("end(76)", true, x.end(76));
        Due.due("sign with four more", 80, x.sign(0));
        Due.due("end(4)", true, x.end(4));
        Due.due("strings of the highest byte first", 0, x.strings());
        Due.beads("abcd", x, "abcd");
        Due.due("the text is empty", 0, x.count(9));
        Due.due("end(0)", true, x.end(0));
        Due.due("end(1) of nothing", false, x.end(1));
        x.sign(0xE9626364);
        Due.due("sign above 127", -1, x.strings());
    }

    private static void strings() {
        BeadRings x = new BeadRings();
        String[] texts = {"", "e", "aeb", "abcdabcdab?", "abcdabcdabcd", "aaaaaaaaa`a", "A"};
        int[] answers = {-1, -1, -2, -11, -11, -10, -1};
        for (int i = 0; i < texts.length; i++) {
            Due.due("strings " + texts[i], answers[i], Due.strings(x, texts[i]));
            Due.due("text emptied by " + texts[i], 0, x.count(9));
        }
        Due.due("nothing to undo", 0, x.count(7));
        Due.due("ten", 0, Due.strings(x, "aaaaaaaaaa"));
        Due.stock("ten", x, 2, 12, 12, 12);
        Due.due("not so many", -101, Due.strings(x, "baaa"));
        Due.stock("not so many", x, 2, 12, 12, 12);
        Due.due("just so many", 1, Due.strings(x, "baa"));
        for (int i = 2; i < 5; i++) {
            Due.due("more", i, Due.strings(x, "d"));
        }
        Due.due("signs ahead of five", -2, Due.strings(x, "dx"));
        Due.due("five ahead of stock", -100, Due.strings(x, "a"));
        Due.beads("five", x, "aaaaaaaaaa", "baa", "d", "d", "d");
        Due.due("strings that were done", 5, x.count(7));
    }

    private static int priceBy(String rule) {
        BeadRings x = Due.stall("aab", "aba", "c");
        Due.due("rule " + rule, 0, Due.rule(x, rule));
        return x.bracelet(0, 4);
    }

    private static void prices() {
        String[] rules = {
            "n", "c", "t", "f", "m", "d", "h", "", "12", "999", "-5", "5-3-1", "2+3*4", "(2+3)*4", "90/7/2", "-7/2+10", "7/-2+10",
            "7/0+1", "1<2", "2<1", "2>1", "2=2", "2=3", "1+1=2", "3-(1<2)", "--5", "2--5", "2*-3+9", "---5+9", "((((7))))", "007",
            "999*999*999*999*0+n", "65*999*999*999/999/999", "0-n+50", "10-4/3*3", "(1<2)=1", "8*9-3*(n-1)*-1", "1=1*50"};
        int[] answers = {
            3, 2, 3, 1, 2, 2, 1, 7, 12, 99, 0, 1, 14, 20, 6, 7, 7,
            1, 1, 0, 1, 1, 0, 1, 2, 5, 7, 3, 4, 7, 7,
            3, 0, 47, 7, 1, 78, 0};
        for (int i = 0; i < rules.length; i++) {
            int want = rules[i].startsWith("65*") ? wrapped() : answers[i];
            Due.due("price by " + rules[i], want, priceBy(rules[i]));
        }
        String[] compared = {"2<2", "2>2", "1>2", "3=2", "(1<2)+(3>2)", "((1<2)=1)+(0=0)", "(1<2)*(2=2)+(4>3)+(1=1)"};
        int[] ones = {0, 0, 0, 0, 2, 2, 3};
        for (int i = 0; i < compared.length; i++) {
            Due.due("price by " + compared[i], ones[i], priceBy(compared[i]));
        }
        BeadRings x = Due.stall("a", "ab", "abab");
        Due.rule(x, "d*10+f");
        Due.due("one bead", 1, x.bracelet(0, 4));
        Due.due("two beads", 21, x.bracelet(1, 4));
        Due.due("four beads", 42, x.bracelet(2, 4));
    }

    private static int wrapped() {
        int value = 65 * 999 * 999 * 999 / 999 / 999;
        return Math.max(0, Math.min(99, value));
    }

    private static void rulesOneBehindAnother() {
        BeadRings x = Due.stall("aab");
        String[] rules = {"n+c", "n*2-1", "(n+", "n=3", "1<2<3", "-n+9", "((n", "12", "", "n-1"};
        int[] prices = {5, 5, 5, 1, 1, 6, 6, 12, 7, 2};
        for (int i = 0; i < rules.length; i++) {
            Due.rule(x, rules[i]);
            Due.due("price behind " + rules[i], prices[i], x.bracelet(0, 4));
        }
    }

    private static void ruleFaults() {
        String[] texts = {
            "+", "n+", "n+*c", "nn", "n2", "2n", "1234", "12 ", "(n", "n)", "()", "(((((n)))))", "1<2<3", "1<2+3=4", "1<(2<3)<4",
            "n<", "x", "N", "-", "--", "(1<2)(", "1+2)", "n=", "<n", "((((n))))(", "n-", "n!", "~2", "n~2"};
        int[] answers = {
            -1, -3, -3, -2, -2, -2, -4, -3, -3, -2, -2, -5, -4, -6, -8,
            -3, -1, -1, -2, -3, -6, -4, -3, -1, -10, -3, -2, -1, -2};
        BeadRings x = Due.stall("abc");
        Due.due("rule", 0, Due.rule(x, "n*7"));
        for (int i = 0; i < texts.length; i++) {
            Due.due("rule " + texts[i], answers[i], Due.rule(x, texts[i]));
            Due.due("text emptied by " + texts[i], 0, x.count(9));
            Due.due("rule stays with " + texts[i], 21, x.bracelet(0, 4));
        }
        String thirtyNine = "n+".repeat(19) + "n";
        Due.due("39 signs", 0, Due.rule(x, thirtyNine));
        Due.due("39 signs", 60, x.bracelet(0, 4));
        Due.due("40 signs", 0, Due.rule(x, "-" + thirtyNine));
        Due.due("40 signs", 54, x.bracelet(0, 4));
        Due.due("40 signs, ends too early", -41, Due.rule(x, thirtyNine + "+"));
        Due.due("41 signs, could end", -41, Due.rule(x, "-" + thirtyNine + "+"));
        Due.due("41 signs, could go on", -41, Due.rule(x, thirtyNine + "+n"));
        Due.due("41 signs, a fault at 40", -41, Due.rule(x, "-" + thirtyNine + "?"));
        Due.due("41 signs, a fault ahead", -40, Due.rule(x, "-" + thirtyNine.substring(0, 38) + "++"));
        Due.due("60 signs, a fault ahead", -2, Due.rule(x, "nn" + thirtyNine + "+n+n+n"));
        Due.due("rule stays", 54, x.bracelet(0, 4));
        Due.due("none", 0, Due.rule(x, ""));
        Due.due("none", 9, x.bracelet(0, 4));
        Due.due("a rule can't be undone", 1, x.count(7));
    }

    private static void told() {
        BeadRings x = Due.stall("abca", "caab", "abab", "d");
        int[][] want = {{4, 7, 4, 0, 10, 1}, {4, 7, 4, 0, 10, 1}, {4, 3, 2, 2, 8, 0}, {1, 8, 1, 1, 3, 0}};
        for (int b = 0; b < want.length; b++) {
            for (int what = 0; what < 6; what++) {
                Due.due("bracelet(" + b + ", " + what + ")", want[b][what], x.bracelet(b, what));
            }
        }
        BeadRings y = Due.stall("aab", "aba");
        y.parts(1);
        Due.due("one that is gone is not alike", 0, y.bracelet(0, 5));
        Due.throwsNone("bracelet(4, 0)", () -> x.bracelet(4, 0));
        Due.throwsNone("bracelet(-1, 0)", () -> x.bracelet(-1, 0));
        Due.throwsNone("bracelet(0, 6)", () -> x.bracelet(0, 6));
        Due.throwsNone("bracelet(0, -1)", () -> x.bracelet(0, -1));
        Due.due("bead(0, 3)", 0, x.bead(0, 3));
        Due.due("bead(1, 0)", 2, x.bead(1, 0));
        Due.throwsNone("bead(0, 4)", () -> x.bead(0, 4));
        Due.throwsNone("bead(0, -1)", () -> x.bead(0, -1));
        Due.throwsNone("bead(4, 0)", () -> x.bead(4, 0));
        Due.throwsNone("bead(-1, 0)", () -> x.bead(-1, 0));
        Due.stock("told", x, 6, 8, 10, 11);
        Due.throwsNone("stock(4)", () -> x.stock(4));
        Due.throwsNone("stock(-1)", () -> x.stock(-1));
    }

    private static void sheets() {
        BeadRings x = Due.stall("a");
        Due.due("ints", 10, x.sheet(2, 4, 1, 1));
        Due.stock("ints", x, 1, 2, 3, 4);
        Due.due("two of four", 3, x.sheet(2, 2, 1, 1));
        Due.stock("two of four", x, 1, 2, 0, 0);
        Due.due("three above 99", 297, x.sheet(2, 3, 99, 1));
        Due.stock("three above 99", x, 99, 99, 99, 0);
    }

    private static void sheetEdges() {
        BeadRings x = Due.stall("a");
        // 100, 228 as a byte -28, 356 as a byte 100, 484 as a byte -28
        Due.due("bytes", 198, x.sheet(0, 4, 100, 128));
        Due.stock("bytes", x, 99, 0, 99, 0);
        Due.due("bytes 256", 5, x.sheet(0, 1, 256 + 5, 0));
        // 32767, 32768 as a short -32768, 65535 as a short -1, 65543 as a short 7
        Due.due("shorts", 99, x.sheet(1, 2, 32767, 1));
        Due.stock("shorts", x, 99, 0, 0, 0);
        Due.due("shorts 65536", 7, x.sheet(1, 1, 65543, 0));
        Due.due("ints wrap", 99, x.sheet(2, 2, Integer.MAX_VALUE, 1));
        Due.stock("ints wrap", x, 99, 0, 0, 0);
        Due.due("nothing", 0, x.sheet(0, 0, 50, 50));
        Due.stock("nothing", x, 0, 0, 0, 0);
        x.sheet(2, 4, 9, -3);
        Due.stock("down", x, 9, 6, 3, 0);
        Due.due("another kind", -1, x.sheet(4, -1, 1, 1));
        Due.due("another kind", -1, x.sheet(-1, 2, 1, 1));
        Due.due("above 4", -1, x.sheet(0, 5, 1, 1));
        Due.due("missing, above 4", -1, x.sheet(3, 5, 1, 1));
        Due.due("below 0", -2, x.sheet(2, -1, 1, 1));
        Due.stock("refused", x, 9, 6, 3, 0);
        Due.due("can't be undone", 1, x.count(7));
        Due.due("missing", -3, x.sheet(3, -1, 1, 1));
        Due.stock("missing", x, 0, 0, 0, 0);
        Due.due("undo behind a sheet", 0, x.undo());
        Due.stock("undo behind a sheet", x, 12, 12, 12, 12);
    }

    public static void main(String[] args) {
        newObject();
        signs();
        strings();
        prices();
        rulesOneBehindAnother();
        ruleFaults();
        told();
        sheets();
        sheetEdges();
        Due.end("StockTest");
    }
}
