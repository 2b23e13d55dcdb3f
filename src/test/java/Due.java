import java.util.NoSuchElementException;

/** What the tests of the project share: calls with the answers that are due, and an end with exit code 1 if one was wrong. */
final class Due {
    /** What thrown() and the calls below answer if NoSuchElementException was thrown; no call answers it by itself. */
    static final long THROWN = Long.MIN_VALUE;

    private static int asked = 0;
    private static int wrong = 0;

    private Due() {
    }

    interface Call {
        long answer();
    }

    static void due(String what, long want, long got) {
        asked++;
        if (got != want) {
            wrong++;
            if (wrong <= 40) {
                System.out.println(what + " answered " + got + ", due is " + want);
            }
        }
    }

    static void due(String what, boolean want, boolean got) {
        due(what, want ? 1 : 0, got ? 1 : 0);
    }

    static void throwsNone(String what, Call call) {
        due(what + " (thrown)", THROWN, outcome(call));
    }

    static long outcome(Call call) {
        try {
            return call.answer();
        } catch (NoSuchElementException e) {
            return THROWN;
        }
    }

    /** The ROW, whole. */
    static void row(String what, BeadRings x, long... want) {
        due(what + ": numbers of the row", want.length, x.count(8));
        for (int i = 0; i < want.length; i++) {
            int at = i;
            due(what + ": row(" + i + ")", want[i], outcome(() -> x.row(at)));
        }
        throwsNone(what + ": row(" + want.length + ")", () -> x.row(want.length));
        throwsNone(what + ": row(-1)", () -> x.row(-1));
    }

    /** Puts a text in place of THE TEXT. */
    static void text(BeadRings x, String text) {
        x.end(0);
        for (int i = 0; i < text.length(); i += 4) {
            int v = 0;
            for (int j = i; j < i + 4; j++) {
                v = v << 8 | (j < text.length() ? text.charAt(j) : 0);
            }
            x.sign(v);
        }
        x.end(text.length());
    }

    static int strings(BeadRings x, String text) {
        text(x, text);
        return x.strings();
    }

    static int rule(BeadRings x, String text) {
        text(x, text);
        return x.rule();
    }

    static int day(BeadRings x, String text) {
        text(x, text);
        return x.day();
    }

    static int finds(BeadRings x, int bracelet, String text) {
        text(x, text);
        return x.finds(bracelet);
    }

    static int ways(BeadRings x, String text) {
        text(x, text);
        return x.ways();
    }

    static int law(BeadRings x, String text) {
        text(x, text);
        return x.law();
    }

    /** A new object with these bracelets. */
    static BeadRings stall(String... bracelets) {
        BeadRings x = new BeadRings();
        for (int i = 0; i < bracelets.length; i++) {
            due("strings " + bracelets[i], i, strings(x, bracelets[i]));
        }
        return x;
    }

    /** The bracelet's beads as letters, by bracelet() and bead(). */
    static String letters(BeadRings x, int bracelet) {
        StringBuilder letters = new StringBuilder();
        int n = x.bracelet(bracelet, 0);
        for (int i = 0; i < n; i++) {
            letters.append((char) ('a' + x.bead(bracelet, i)));
        }
        return letters.toString();
    }

    static void beads(String what, BeadRings x, String... want) {
        due(what + ": bracelets", want.length, x.count(0));
        for (int b = 0; b < want.length && b < x.count(0); b++) {
            String got = letters(x, b);
            due(what + ": bracelet " + b + " is " + got + ", due is " + want[b], true, got.equals(want[b]));
        }
    }

    static void stock(String what, BeadRings x, int... want) {
        for (int colour = 0; colour < 4; colour++) {
            due(what + ": stock of " + colour, want[colour], x.stock(colour));
        }
    }

    static void end(String name) {
        System.out.println(name + ": " + asked + " answers, " + wrong + " wrong");
        if (wrong > 0 || asked == 0) {
            System.exit(1);
        }
    }
}
