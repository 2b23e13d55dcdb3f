import java.util.Random;

/** Runs of drawn calls, sensible and wild, each held against PlainRings: its answer, the ROW and the whole state behind it. */
public final class FuzzTest {
    private static final String[] RULES = {
        "", "n", "n*n", "t*f-d", "m>2", "h*10+1", "-n+20", "--n", "(n+c)*(t-f)/d", "99*n=c", "999*999*999*999", "n/0+1",
        "((((n))))", "1<2", "-(n-12)*m", "h", "n/-2", "7-n/2*2", "d*d-f*f+h*h", "n<c+1", "(n<c)<2", "0-n/3+40", "5-3-1",
        "90/7/2", "999999", "1<2<3", "(((((n)))))", "n+", "()", "n)", "(n", "nn", "2n", "n2", "1234", "-", "x", "n+*c", "n=-c",
        "1+(2>1=0)", "n+n+n+n+n+n+n+n+n+n+n+n+n+n+n+n+n+n+n+n", "n+n+n+n+n+n+n+n+n+n+n+n+n+n+n+n+n+n+n+nn",
        "n+n+n+n+n+n+n+n+n+n+n+n+n+n+n+n+n+n+n+n+", "----------------------------------------",
        "-----------------------------------------", "n+n+n+n+n+n+n+n+n+n+n+n+n+n+n+n+n+n+n+123", "f", "t", "c*c"};
    private static final String[] ACTS = {
        "r%d%d", "f%d", "x%d%d", "t%d%d%c", "c%d%d", "j%d%d", "u%d", "s%d", "b%c%d"};

    private final Random random;
    private final BeadRings x = new BeadRings();
    private final PlainRings y = new PlainRings();

    private FuzzTest(long seed) {
        random = new Random(seed);
    }

    private int below(int n) {
        return random.nextInt(n);
    }

    /** Mostly 0 .. most, now and then just beside it, or far away. */
    private int near(int most) {
        switch (below(24)) {
            case 0: return -1;
            case 1: return most + 1;
            case 2: return new int[] {Integer.MIN_VALUE, Integer.MAX_VALUE, 1000, -1000, 1 << 16}[below(5)];
            default: return below(most + 1);
        }
    }

    private int some() {
        int n = y.state.bracelets.size();
        return n == 0 ? near(1) : near(n - 1);
    }

    private int someBead() {
        return near(below(3) == 0 ? 9 : 3);
    }

    private String word(int most) {
        StringBuilder word = new StringBuilder();
        int n = below(40) == 0 ? 0 : 1 + below(below(30) == 0 ? 12 : most);
        int colours = 1 + below(4);
        for (int i = 0; i < n; i++) {
            word.append((char) ('a' + below(colours)));
        }
        if (below(15) == 0 && n > 0) {
            word.setCharAt(below(n), (char) below(256));
        }
        if (below(4) == 0 && n > 1 && n <= 5) {
            word.append(word);
        }
        return word.toString();
    }

    private String ruleText() {
        if (below(3) > 0) {
            return RULES[below(RULES.length)];
        }
        StringBuilder text = new StringBuilder();
        String signs = "nctfmdh0123456789+-*/<>=()";
        int n = below(8) == 0 ? below(60) : 1 + below(9);
        boolean thing = true;
        for (int i = 0; i < n; i++) {
            if (below(12) == 0) {
                text.append(signs.charAt(below(signs.length())));
            } else {
                text.append(thing ? "nctfmdh12(-".charAt(below(11)) : "+-*/<>=)".charAt(below(8)));
                thing = !thing || text.charAt(text.length() - 1) == '(' || text.charAt(text.length() - 1) == '-';
            }
        }
        return text.toString();
    }

    private String dayText() {
        StringBuilder text = new StringBuilder();
        int n = below(below(6) == 0 ? 25 : 6);
        for (int i = 0; i < n; i++) {
            String act = ACTS[below(ACTS.length)];
            for (int j = 0; j < act.length(); j++) {
                if (act.charAt(j) == '%') {
                    j++;
                    text.append((char) (act.charAt(j) == 'c' ? 'a' + below(4) : '0' + below(below(4) == 0 ? 10 : 3)));
                } else {
                    text.append(act.charAt(j));
                }
            }
        }
        if (below(8) == 0 && text.length() > 0) {
            text.setCharAt(below(text.length()), "rfxtcjusb0123456789abcd ".charAt(below(24)));
        }
        if (below(8) == 0 && text.length() > 0) {
            text.setLength(below(text.length()));
        }
        return text.substring(0, Math.min(80, text.length()));
    }

    private void put(String text) {
        Due.text(x, text);
        y.text = text;
    }

    private void held(String call, long want, long got) {
        Due.due(call, want, got);
    }

    private void answer(String call, Due.Call want, Due.Call got) {
        held(call, Due.outcome(want), Due.outcome(got));
        state(call);
    }

    private void state(String call) {
        for (int what = -1; what < 11; what++) {
            held(call + " then count(" + what + ")", y.count(what), x.count(what));
        }
        for (int i = 0; i < y.row.size(); i++) {
            int at = i;
            held(call + " then row(" + i + ")", y.row.get(i), Due.outcome(() -> x.row(at)));
        }
        for (int b = 0; b < y.state.bracelets.size(); b++) {
            for (int i = 0; i < y.state.bracelets.get(b).length(); i++) {
                int of = b;
                int at = i;
                held(call + " then bead(" + b + ", " + i + ")", y.bead(b, i), Due.outcome(() -> x.bead(of, at)));
            }
        }
        for (int colour = 0; colour < 4; colour++) {
            held(call + " then stock(" + colour + ")", y.stock(colour), x.stock(colour));
        }
    }

    private void call() {
        int a = some();
        int b = some();
        int p = someBead();
        int c = near(3);
        switch (below(60)) {
            case 0:
                int v = random.nextInt();
                answer("sign", () -> y.sign(v), () -> x.sign(v));
                break;
            case 1:
                int n = near(12);
                answer("end", () -> y.end(n) ? 1 : 0, () -> x.end(n) ? 1 : 0);
                break;
            case 2:
            case 3:
            case 4:
            case 5:
            case 6:
            case 7:
                String word = word(below(2) == 0 ? 10 : 4);
                put(word);
                answer("strings " + word, y::strings, x::strings);
                break;
            case 8:
            case 9:
                String rule = ruleText();
                put(rule);
                answer("rule " + rule, y::rule, x::rule);
                break;
            case 10:
                int what = near(5);
                answer("bracelet", () -> y.bracelet(a, what), () -> x.bracelet(a, what));
                answer("bead", () -> y.bead(a, p), () -> x.bead(a, p));
                answer("stock", () -> y.stock(c), () -> x.stock(c));
                break;
            case 11:
                if (below(3) == 0) {
                    int kind = near(3);
                    int entries = near(4);
                    int f = below(3) == 0 ? random.nextInt() : below(400);
                    int step = below(3) == 0 ? random.nextInt() : below(200) - 100;
                    answer("sheet", () -> y.sheet(kind, entries, f, step), () -> x.sheet(kind, entries, f, step));
                }
                break;
            default:
                acts(a, b, p, c);
                break;
        }
    }

    private void acts(int a, int b, int p, int c) {
        switch (below(48)) {
            case 0:
                int by = near(99);
                answer("rolls", () -> y.done('r', a, by, 0), () -> x.rolls(a, by));
                break;
            case 1:
                answer("flips", () -> y.done('f', a, 0, 0), () -> x.flips(a));
                break;
            case 2:
            case 3:
                answer("swaps", () -> y.done('x', a, p, 0), () -> x.swaps(a, p));
                break;
            case 4:
            case 5:
                answer("threads", () -> y.done('t', a, p, c), () -> x.threads(a, p, c));
                break;
            case 6:
                answer("cuts", () -> y.done('c', a, p, 0), () -> x.cuts(a, p));
                break;
            case 7:
                answer("joins", () -> y.done('j', a, b, 0), () -> x.joins(a, b));
                break;
            case 8:
                answer("parts", () -> y.done('u', a, 0, 0), () -> x.parts(a));
                break;
            case 9:
                answer("sells", () -> y.done('s', a, 0, 0), () -> x.sells(a));
                break;
            case 10:
            case 11:
                int n = near(9);
                answer("buys", () -> y.done('b', c, n, 0), () -> x.buys(c, n));
                break;
            case 12:
            case 13:
                String day = dayText();
                put(day);
                answer("day " + day, y::day, x::day);
                break;
            case 14:
            case 15:
                answer("undo", y::undo, x::undo);
                break;
            default:
                turned(a, b, p);
                break;
        }
    }

    private void turned(int a, int b, int p) {
        switch (below(32)) {
            case 0:
                answer("least", () -> y.least(a), () -> x.least(a));
                break;
            case 1:
            case 2:
                answer("alike", () -> y.alike(a, b), () -> x.alike(a, b));
                break;
            case 3:
                answer("kinds", y::kinds, x::kinds);
                break;
            case 4:
                answer("far", () -> y.far(a, b), () -> x.far(a, b));
                break;
            case 5:
            case 6:
                String word = word(3);
                put(word);
                answer("finds " + word, () -> y.finds(a), () -> x.finds(a));
                break;
            case 7:
                int w = near(6);
                answer("words", () -> y.words(a, w), () -> x.words(a, w));
                break;
            case 8:
                answer("twice", () -> y.twice(a), () -> x.twice(a));
                break;
            case 9:
                answer("arc", () -> y.arc(a), () -> x.arc(a));
                break;
            case 10:
                answer("odds", () -> y.odds(a), () -> x.odds(a));
                break;
            case 11:
                answer("rank", () -> y.rank(a), () -> x.rank(a));
                break;
            case 12:
                answer("next", () -> y.next(a), () -> x.next(a));
                break;
            case 13:
                int n = near(7);
                answer("made", () -> y.made(n), () -> x.made(n));
                answer("dear", () -> y.dear(n), () -> x.dear(n));
                break;
            default:
                asked(a, p);
                break;
        }
    }

    private void asked(int a, int p) {
        switch (below(18)) {
            case 0:
                int n = near(5);
                int k = near(4);
                answer("many", () -> y.many(n, k), () -> x.many(n, k));
                break;
            case 1:
                String beads = word(6);
                put(beads);
                answer("ways " + beads, y::ways, x::ways);
                break;
            case 2:
                int size = near(7);
                int colours = near(4);
                int m = near(below(2) == 0 ? 20 : 999);
                answer("nth", () -> y.nth(size, colours, m), () -> x.nth(size, colours, m));
                break;
            case 3:
                int of = near(4);
                int w = near(4);
                answer("once", () -> y.once(of, w), () -> x.once(of, w));
                break;
            case 4:
            case 5:
                int place = near(9);
                int colour = near(3);
                answer("felt", () -> y.felt(place, colour), () -> x.felt(place, colour));
                break;
            case 6:
                answer("forget", y::forget, x::forget);
                break;
            case 7:
                answer("guess", () -> y.guess(a), () -> x.guess(a));
                answer("feels", () -> y.feels(a), () -> x.feels(a));
                break;
            case 8:
            case 9:
                int what = near(3);
                int v = near(below(2) == 0 ? 2 : 9);
                answer("heard", () -> y.heard(what, v), () -> x.heard(what, v));
                break;
            case 10:
                answer("denies", y::denies, x::denies);
                break;
            case 11:
                answer("fits", y::fits, x::fits);
                answer("asks", y::asks, x::asks);
                break;
            case 12:
                int ring = near(40);
                answer("ring", () -> y.ring(ring), () -> x.ring(ring));
                break;
            case 13:
                String rule = ruleText();
                put(rule);
                answer("law " + rule, y::law, x::law);
                break;
            case 14:
                int worth = near(18);
                answer("bargains", () -> y.bargains(worth), () -> x.bargains(worth));
                break;
            case 15:
                int seed = random.nextInt();
                int years = near(60);
                answer("years", () -> y.years(seed, years), () -> x.years(seed, years));
                break;
            case 16:
                int under = near(2);
                answer("keep", () -> y.keep(under) ? 1 : 0, () -> x.keep(under) ? 1 : 0);
                break;
            default:
                int back = near(2);
                if (below(3) == 0) {
                    answer("again", () -> y.again(back) ? 1 : 0, () -> x.again(back) ? 1 : 0);
                }
                break;
        }
    }

    public static void main(String[] args) {
        int runs = args.length > 0 ? Integer.parseInt(args[0]) : 250;
        for (int run = 0; run < runs; run++) {
            FuzzTest test = new FuzzTest(run);
            for (int i = 0; i < 512; i++) {
                test.call();
            }
        }
        Due.end("FuzzTest");
    }
}
