import java.util.NoSuchElementException;

/** What the tests of the project share: calls with the answers that are due, and an end with exit code 1 if one was wrong. */
final class Due {
    /** What thrown() and the calls below answer if NoSuchElementException was thrown; no call answers it by itself. */
    static final long THROWN = Long.MIN_VALUE;

    private static int asked = 0;
    private static int wrong = 0;
    private static String place = "";

    private Due() {
    }

    interface Call {
        long answer();
    }

    interface Calls {
        void run();
    }

    /** What stands ahead of each wrong answer from now on. */
    static void at(String where) {
        place = where;
    }

    static int asked() {
        return asked;
    }

    static void due(String what, long want, long got) {
        asked++;
        if (got != want) {
            wrong++;
            if (wrong <= 40) {
                System.out.println(place + what + " answered " + got + ", due is " + want);
            }
        }
    }

    static void due(String what, String want, String got) {
        asked++;
        if (!got.equals(want)) {
            wrong++;
            if (wrong <= 40) {
                System.out.println(place + what + " was " + got + ", due is " + want);
            }
        }
    }

    static void due(String what, boolean want, boolean got) {
        due(what, want ? 1 : 0, got ? 1 : 0);
    }

    static void throwsNone(String what, Call call) {
        due(what + " (thrown)", THROWN, outcome(call));
    }

    static long outcome(Call call) {
        try {
            return call.answer();
        } catch (NoSuchElementException e) {
            return THROWN;
        }
    }

    /** The ROW, whole. */
    static void row(String what, BeadRings x, long... want) {
        due(what + ": numbers of the row", want.length, x.count(8));
        for (int i = 0; i < want.length; i++) {
            int at = i;
            due(what + ": row(" + i + ")", want[i], outcome(() -> x.row(at)));
        }
        throwsNone(what + ": row(" + want.length + ")", () -> x.row(want.length));
        throwsNone(what + ": row(-1)", () -> x.row(-1));
    }

    /** Puts a text in place of THE TEXT. */
    static void text(BeadRings x, String text) {
        x.end(0);
        for (int i = 0; i < text.length(); i += 4) {
            int v = 0;
            for (int j = i; j < i + 4; j++) {
                v = v << 8 | (j < text.length() ? text.charAt(j) : 0);
            }
            x.sign(v);
        }
        x.end(text.length());
    }

    /** A call that reads THE TEXT empties it, whatever it answers. */
    private static int emptied(BeadRings x, int answer) {
        due("signs of THE TEXT behind a call that reads it", 0, x.count(9));
        return answer;
    }

    static int strings(BeadRings x, String text) {
        text(x, text);
        return emptied(x, x.strings());
    }

    static int rule(BeadRings x, String text) {
        text(x, text);
        return emptied(x, x.rule());
    }

    static int day(BeadRings x, String text) {
        text(x, text);
        return emptied(x, x.day());
    }

    static int finds(BeadRings x, int bracelet, String text) {
        text(x, text);
        return emptied(x, x.finds(bracelet));
    }

    static int ways(BeadRings x, String text) {
        text(x, text);
        return emptied(x, x.ways());
    }

    static int law(BeadRings x, String text) {
        text(x, text);
        return emptied(x, x.law());
    }

    /** A new object with these bracelets. */
    static BeadRings stall(String... bracelets) {
        BeadRings x = new BeadRings();
        for (int i = 0; i < bracelets.length; i++) {
            due("strings " + bracelets[i], i, strings(x, bracelets[i]));
        }
        return x;
    }

    /** A stall that is not as new: purse 18, the ROW 14 and 9, THE TEXT of four signs, one felt, one heard. */
    static BeadRings lived(String... bracelets) {
        BeadRings x = stall("abcdabcdab");
        x.sells(0);
        x.sheet(2, 4, 20, 10);
        for (int i = 0; i < bracelets.length; i++) {
            due("strings " + bracelets[i], i, strings(x, bracelets[i]));
        }
        x.felt(1, 1);
        x.heard(0, 1);
        x.many(6, 2);
        x.sign(0x61626364);
        return x;
    }

    /** All that can be seen without a question that tells a ROW: bracelets, prices, stock and the counts but the ROW's and THE TEXT's. */
    static String state(BeadRings x) {
        StringBuilder state = new StringBuilder("counts");
        for (int what = 0; what < 8; what++) {
            state.append(' ').append(x.count(what));
        }
        for (int b = 0; b < x.count(0); b++) {
            state.append(", ").append(letters(x, b)).append(" for ").append(x.bracelet(b, 4));
        }
        state.append(", stock");
        for (int colour = 0; colour < 4; colour++) {
            state.append(' ').append(x.stock(colour));
        }
        return state.toString();
    }

    static String told(BeadRings x) {
        StringBuilder told = new StringBuilder("row");
        for (int i = 0; i < x.count(8); i++) {
            told.append(' ').append(x.row(i));
        }
        return told.toString();
    }

    static void onlyTextAndRowChange(BeadRings x, Calls calls) {
        String before = state(x);
        calls.run();
        due("all but THE TEXT and the ROW", before, state(x));
    }

    /** Each of the calls reads THE TEXT, which is empty behind it. */
    static void onlyTextIsEmptied(BeadRings x, Calls calls) {
        String before = state(x) + told(x);
        calls.run();
        due("all but THE TEXT", before, state(x) + told(x));
        due("signs of THE TEXT", 0, x.count(9));
    }

    static void nothingChanges(BeadRings x, Calls calls) {
        String before = state(x) + told(x) + x.count(9);
        calls.run();
        due("all", before, state(x) + told(x) + x.count(9));
    }

    /** The bracelet's beads as letters, by bracelet() and bead(). */
    static String letters(BeadRings x, int bracelet) {
        StringBuilder letters = new StringBuilder();
        int n = x.bracelet(bracelet, 0);
        for (int i = 0; i < n; i++) {
            letters.append((char) ('a' + x.bead(bracelet, i)));
        }
        return letters.toString();
    }

    static void beads(String what, BeadRings x, String... want) {
        due(what + ": bracelets", want.length, x.count(0));
        for (int b = 0; b < want.length && b < x.count(0); b++) {
            String got = letters(x, b);
            due(what + ": bracelet " + b + " is " + got + ", due is " + want[b], true, got.equals(want[b]));
        }
    }

    static void stock(String what, BeadRings x, int... want) {
        for (int colour = 0; colour < 4; colour++) {
            due(what + ": stock of " + colour, want[colour], x.stock(colour));
        }
    }

    static void end(String name) {
        System.out.println(name + ": " + asked + " answers, " + wrong + " wrong");
        if (wrong > 0 || asked == 0) {
            System.exit(1);
        }
    }
}
