/** Promises 50 to 53: what is kept, counts, the ROW. */
public final class KeptTest {
    private static void keep() {
        BeadRings x = Due.stall("abcd", "aab");
        Due.due("nothing kept", false, x.again(0));
        Due.due("others", false, x.keep(-1));
        Due.due("others", false, x.keep(3));
        Due.due("others", false, x.again(-1));
        Due.due("others", false, x.again(3));
        Due.due("undone stays with a refused again", 2, x.count(7));
        Due.due("keep", true, x.keep(0));
        x.sells(0);
        x.buys(2, 5);
        Due.due("keep", true, x.keep(2));
        Due.due("nothing kept", false, x.again(1));
        Due.due("again", true, x.again(0));
        Due.beads("again", x, "abcd", "aab");
        Due.stock("again", x, 9, 10, 11, 11);
        Due.due("purse", 0, x.count(3));
        Due.due("undone are forgotten", 0, x.count(7));
        Due.due("undo", -1, x.undo());
        x.flips(0);
        Due.due("one more", 1, x.count(7));
        Due.due("again", true, x.again(2));
        Due.beads("again", x, "aab");
        Due.stock("again", x, 9, 10, 16, 11);
        Due.due("purse", 7, x.count(3));
        Due.due("again what was kept first", true, x.again(0));
        Due.beads("what was kept stays as it was", x, "abcd", "aab");
        x.parts(0);
        Due.due("keep anew", true, x.keep(0));
        x.parts(0);
        x.again(0);
        Due.beads("kept anew", x, "aab");
    }

    private static void othersStay() {
        BeadRings x = Due.stall("abcd");
        x.keep(1);
        Due.rule(x, "n");
        x.felt(0, 0);
        x.heard(0, 1);
        x.sign(7);
        x.many(6, 2);
        x.again(1);
        Due.due("rule stays", 4, x.count(4));
        Due.due("felt stays", 1, x.count(5));
        Due.due("heard stays", 1, x.count(6));
        Due.due("text stays", 4, x.count(9));
        Due.row("row stays", x, 14, 9);
    }

    private static void counts() {
        BeadRings x = Due.stall("abcd", "aab", "d");
        x.sells(2);
        x.felt(0, 0);
        x.felt(0, 1);
        x.heard(0, 1);
        x.nth(5, 2, 3);
        x.sign(1);
        x.sign(1);
        int[] want = {2, 7, 40, 3, 12 + 7, 2, 1, 4, 5, 8};
        for (int what = 0; what < want.length; what++) {
            Due.due("count(" + what + ")", want[what], x.count(what));
        }
        Due.due("another", -100, x.count(10));
        Due.due("another", -100, x.count(-1));
        Due.due("another", -100, x.count(Integer.MIN_VALUE));
    }

    private static void row() {
        BeadRings x = new BeadRings();
        Due.throwsNone("no row", () -> x.row(0));
        x.nth(3, 3, 4);
        Due.row("row", x, 0, 1, 2);
        Due.throwsNone("far", () -> x.row(Integer.MAX_VALUE));
        Due.throwsNone("far", () -> x.row(Integer.MIN_VALUE));
        x.many(1, 1);
        Due.row("a shorter one", x, 1, 1);
    }

    public static void main(String[] args) {
        keep();
        othersStay();
        counts();
        row();
        Due.end("KeptTest");
    }
}
