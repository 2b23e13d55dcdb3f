/** Promises 21 to 28: bracelets as they are turned. */
public final class TurnedTest {
    private static void least() {
        BeadRings x = Due.stall("abca", "abab", "cbab", "dcba", "b");
        Due.due("rolled", 3, x.least(0));
        Due.row("rolled", x, 0, 0, 1, 2);
        Due.due("as it is", 0, x.least(1));
        Due.row("as it is", x, 0, 1, 0, 1);
        Due.due("rolled, of several the least", 2, x.least(2));
        Due.row("rolled, of several the least", x, 0, 1, 2, 1);
        Due.due("flipped", 100, x.least(3));
        Due.row("flipped", x, 0, 1, 2, 3);
        Due.due("one", 0, x.least(4));
        Due.row("one", x, 1);
        Due.due("none such", -1, x.least(5));
        Due.due("none such", -1, x.least(-1));
        Due.row("the row stays", x, 1);
        BeadRings y = Due.stall("cbad");
        Due.due("flipped, then rolled", 101, y.least(0));
        Due.row("flipped, then rolled", y, 0, 1, 2, 3);
    }

    private static void alike() {
        BeadRings x = Due.stall("abca", "caab", "abab", "acba", "aaa");
        Due.due("rolled", 2, x.alike(0, 1));
        Due.row("rolled", x, 1);
        Due.due("back", 2, x.alike(1, 0));
        Due.due("itself", 0, x.alike(2, 2));
        Due.row("itself", x, 4);
        Due.due("flipped", 100, x.alike(0, 3));
        Due.row("flipped", x, 1);
        Due.due("flipped, then rolled", 102, x.alike(1, 3));
        Due.due("of one colour", 0, x.alike(4, 4));
        Due.row("of one colour", x, 6);
        Due.due("by none", -2, x.alike(0, 2));
        Due.due("other beads", -2, x.alike(0, 4));
        Due.due("none such", -1, x.alike(0, 5));
        Due.due("none such", -1, x.alike(-1, 0));
        Due.row("the row stays", x, 6);
        BeadRings y = Due.stall("a", "ab");
        Due.due("one bead", 0, y.alike(0, 0));
        Due.row("one bead", y, 2);
        Due.due("two beads", 0, y.alike(1, 1));
        Due.row("two beads", y, 2);
    }

    private static void kinds() {
        BeadRings x = Due.stall("abca", "abab", "caab", "baba", "ab");
        Due.due("kinds", 3, x.kinds());
        Due.row("kinds", x, 0, 1, 0, 1, 4);
        BeadRings y = new BeadRings();
        y.many(2, 2);
        Due.due("none", 0, y.kinds());
        Due.row("none", y);
    }

    private static void far() {
        BeadRings x = Due.stall("abca", "caab", "abab", "dddd", "a");
        Due.due("far", 2, x.far(0, 2));
        Due.row("far", x, 0);
        Due.due("alike", 0, x.far(0, 1));
        Due.row("alike", x, 2);
        Due.due("all", 4, x.far(0, 3));
        Due.row("all", x, 0);
        Due.due("itself", 0, x.far(3, 3));
        Due.due("not as many", -2, x.far(0, 4));
        Due.due("none such", -1, x.far(0, 5));
        Due.due("none such", -1, x.far(5, 0));
        Due.row("the row stays", x, 0);
        BeadRings y = Due.stall("abcd", "dcba", "dcbb", "adcc");
        Due.due("flipped", 0, y.far(0, 1));
        Due.row("flipped", y, 100);
        Due.due("flipped but for one", 1, y.far(0, 2));
        Due.row("flipped but for one", y, 100);
        Due.due("flipped and rolled but for one", 1, y.far(0, 3));
        Due.row("flipped and rolled but for one", y, 103);
    }

    private static void finds() {
        BeadRings x = Due.stall("abcab", "aaa");
        Due.due("ab", 1 | 8, Due.finds(x, 0, "ab"));
        Due.row("ab", x, 2);
        Due.due("around", 16, Due.finds(x, 0, "ba"));
        Due.row("around", x, 1);
        Due.due("as long", 2, Due.finds(x, 0, "bcaba"));
        Due.due("every one", 7, Due.finds(x, 1, "aa"));
        Due.row("every one", x, 3);
        Due.due("longer", -101, Due.finds(x, 1, "aaaa"));
        Due.due("no such bracelet", -100, Due.finds(x, 2, "aaaa"));
        Due.due("no such bracelet", -100, Due.finds(x, -1, "a"));
        Due.due("signs first", -2, Due.finds(x, 7, "ax"));
        Due.due("eleventh", -11, Due.finds(x, 7, "aaaaaaaaaaa"));
        Due.due("none", -1, Due.finds(x, 0, ""));
        Due.row("the row stays", x, 3);
        Due.due("the text is empty", 0, x.count(9));
        Due.due("not there", 0, Due.finds(x, 1, "b"));
        Due.row("not there", x, 0);
    }

    private static void words() {
        BeadRings x = Due.stall("abcab", "dddd");
        Due.due("of one", 3, x.words(0, 1));
        Due.row("of one", x, 2, 0);
        Due.due("of two", 4, x.words(0, 2));
        Due.row("of two", x, 2, 0);
        Due.due("of five", 5, x.words(0, 5));
        Due.row("of five", x, 1, 0);
        Due.due("the same", 1, x.words(1, 3));
        Due.row("the same", x, 4, 0);
        Due.due("of none", -1, x.words(0, 0));
        Due.due("of six", -1, x.words(0, 6));
        Due.due("none such", -1, x.words(2, 1));
        Due.row("the row stays", x, 4, 0);
        BeadRings y = Due.stall("abbcc");
        Due.due("begins first", 3, y.words(0, 1));
        Due.row("begins first", y, 2, 1);
    }

    private static void twice() {
        BeadRings x = Due.stall("abcab", "aaaa", "abcd", "a", "babba");
        Due.due("ab", 2, x.twice(0));
        Due.row("ab", x, 0, 3);
        Due.due("of fewer than all", 3, x.twice(1));
        Due.row("of fewer than all", x, 0, 1);
        Due.due("none", 0, x.twice(2));
        Due.row("none", x);
        x.twice(0);
        Due.due("one bead", 0, x.twice(3));
        Due.row("one bead", x);
        // bab at 0; ba at 0 and 3; abb at 1 and 4 (around: a b a), so: from 0 babba, 1 abbab, 2 bbaba, 3 babab, 4 ababb
        Due.due("around", 3, x.twice(4));
        Due.row("around", x, 0, 3);
        Due.due("none such", -1, x.twice(5));
        Due.row("the row stays", x, 0, 3);
        BeadRings y = Due.stall("abca", "aa");
        Due.due("of one", 1, y.twice(0));
        Due.row("of one", y, 0, 3);
        Due.due("of two beads", 1, y.twice(1));
        Due.row("of two beads", y, 0, 1);
    }

    private static void arc() {
        BeadRings x = Due.stall("abca", "abab", "abcd", "a", "cabba");
        Due.due("around", 2, x.arc(0));
        Due.row("around", x, 3);
        Due.due("three", 3, x.arc(1));
        Due.row("three", x, 0);
        Due.due("one", 1, x.arc(2));
        Due.row("one", x, 0);
        Due.due("one bead", 1, x.arc(3));
        Due.row("one bead", x, 0);
        // bacab around, from bead 3 on
        Due.due("all", 5, x.arc(4));
        Due.row("all", x, 3);
        Due.due("none such", -1, x.arc(5));
        Due.due("none such", -1, x.arc(-1));
        Due.row("the row stays", x, 3);
    }

    public static void main(String[] args) {
        least();
        alike();
        kinds();
        far();
        finds();
        words();
        twice();
        arc();
        Due.end("TurnedTest");
    }
}
