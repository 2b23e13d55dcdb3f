import java.util.ArrayList;
import java.util.Arrays;
import java.util.HashMap;
import java.util.List;
import java.util.Map;
import java.util.NoSuchElementException;
import java.util.TreeMap;
import java.util.TreeSet;

/**
 * The document's words once more, in their slowest form, with bracelets as texts of letters and all that is counted
 * listed: what FuzzTest holds BeadRings against. It shares no line with it.
 */
final class PlainRings {
    static final class State {
        List<String> bracelets = new ArrayList<>();
        int[] stock = {12, 12, 12, 12};
        int purse = 0;

        State copy() {
            State copy = new State();
            copy.bracelets = new ArrayList<>(bracelets);
            copy.stock = stock.clone();
            copy.purse = purse;
            return copy;
        }
    }

    static final class Fault extends RuntimeException {
        private static final long serialVersionUID = 1;
        final int at;

        Fault(int at) {
            this.at = at;
        }
    }

    State state = new State();
    String text = "";
    String rule = "";
    List<Long> row = new ArrayList<>();
    List<State> past = new ArrayList<>();
    State[] kept = new State[3];
    List<int[]> felt = new ArrayList<>();
    List<int[]> heard = new ArrayList<>();

    private void tell(long... numbers) {
        row = new ArrayList<>();
        for (long number : numbers) {
            row.add(number);
        }
    }

    private void tellLetters(String letters) {
        row = new ArrayList<>();
        for (char c : letters.toCharArray()) {
            row.add((long) (c - 'a'));
        }
    }

    private String takeText() {
        String taken = text;
        text = "";
        return taken;
    }

    private boolean none(int b) {
        return b < 0 || b >= state.bracelets.size();
    }

    private String of(int b) {
        return state.bracelets.get(b);
    }

    // ---- turnings

    static String rolled(String s, int n) {
        int by = n % s.length();
        return s.substring(by) + s.substring(0, by);
    }

    static String flipped(String s) {
        return new StringBuilder(s).reverse().toString();
    }

    /** By its name, each turning; the map is in the order of names. */
    static TreeMap<Integer, String> turnings(String s) {
        TreeMap<Integer, String> all = new TreeMap<>();
        for (int n = 0; n < s.length(); n++) {
            all.put(n, rolled(s, n));
            all.put(100 + n, rolled(flipped(s), n));
        }
        return all;
    }

    static String leastRow(String s) {
        return new TreeSet<>(turnings(s).values()).first();
    }

    static boolean isAlike(String s, String other) {
        return turnings(s).containsValue(other);
    }

    static int t(String s) {
        int by = 1;
        while (!rolled(s, by).equals(s)) {
            by++;
        }
        return by;
    }

    static int f(String s) {
        int number = 0;
        for (int by = 0; by < s.length(); by++) {
            if (rolled(flipped(s), by).equals(s)) {
                number++;
            }
        }
        return number;
    }

    static int of(String s, char letter) {
        return (int) s.chars().filter(c -> c == letter).count();
    }

    static int c(String s) {
        return (int) s.chars().distinct().count();
    }

    static int m(String s) {
        return Math.max(Math.max(of(s, 'a'), of(s, 'b')), Math.max(of(s, 'c'), of(s, 'd')));
    }

    static int d(String s) {
        int number = 0;
        for (int i = 0; i < s.length(); i++) {
            if (s.charAt(i) != s.charAt((i + 1) % s.length())) {
                number++;
            }
        }
        return number;
    }

    // ---- the rule

    /** Reads by descent; what it can't take it tells by a Fault at its place. */
    static final class Reader {
        final String s;
        final String bracelet;
        final int alike;
        int at = 0;

        Reader(String s, String bracelet, int alike) {
            this.s = s;
            this.bracelet = bracelet;
            this.alike = alike;
        }

        char here() {
            return at < s.length() ? s.charAt(at) : '$';
        }

        boolean isHere(String signs) {
            return at < s.length() && signs.indexOf(here()) >= 0;
        }

        int whole() {
            int value = expression(0);
            if (at < s.length()) {
                throw new Fault(at);
            }
            return value;
        }

        int expression(int depth) {
            int left = sum(depth);
            if (isHere("<>=")) {
                char sign = s.charAt(at++);
                int right = sum(depth);
                boolean so = sign == '<' ? left < right : sign == '>' ? left > right : left == right;
                return so ? 1 : 0;
            }
            return left;
        }

        int sum(int depth) {
            int left = product(depth);
            while (isHere("+-")) {
                if (s.charAt(at++) == '+') {
                    left += product(depth);
                } else {
                    left -= product(depth);
                }
            }
            return left;
        }

        int product(int depth) {
            int left = thing(depth);
            while (isHere("*/")) {
                if (s.charAt(at++) == '*') {
                    left *= thing(depth);
                } else {
                    int right = thing(depth);
                    left = right == 0 ? 0 : left / right;
                }
            }
            return left;
        }

        int thing(int depth) {
            if (isHere("-")) {
                at++;
                return -thing(depth);
            }
            if (isHere("(") && depth < 4) {
                at++;
                int value = expression(depth + 1);
                if (!isHere(")")) {
                    throw new Fault(at);
                }
                at++;
                return value;
            }
            if (isHere("0123456789")) {
                int from = at;
                while (isHere("0123456789") && at < from + 3) {
                    at++;
                }
                return Integer.parseInt(s.substring(from, at));
            }
            if (!isHere("nctfmdh")) {
                throw new Fault(at);
            }
            switch (s.charAt(at++)) {
                case 'n': return bracelet.length();
                case 'c': return c(bracelet);
                case 't': return t(bracelet);
                case 'f': return f(bracelet);
                case 'm': return m(bracelet);
                case 'd': return d(bracelet);
                default: return alike;
            }
        }
    }

    static int price(String rule, String bracelet, int alike) {
        String told = rule.isEmpty() ? "n+c*2" : rule;
        return Math.max(0, Math.min(99, new Reader(told, bracelet, alike).whole()));
    }

    /** Where the rule has its fault, or -1. */
    static int ruleFault(String s) {
        if (s.isEmpty()) {
            return -1;
        }
        if (s.length() > 40) {
            int first = ruleFault(s.substring(0, 40));
            return first >= 0 ? first : 40;
        }
        try {
            new Reader(s, "a", 0).whole();
            return -1;
        } catch (Fault fault) {
            return fault.at;
        }
    }

    private int alikeTo(String s) {
        int number = 0;
        for (String b : state.bracelets) {
            if (isAlike(s, b)) {
                number++;
            }
        }
        return number;
    }

    private int price(int b, String byRule) {
        return price(byRule, of(b), alikeTo(of(b)) - 1);
    }

    private int prices(String byRule) {
        int all = 0;
        for (int b = 0; b < state.bracelets.size(); b++) {
            all += price(b, byRule);
        }
        return all;
    }

    // ---- stock, bracelets

    int sign(int v) {
        if (text.length() + 4 > 80) {
            return -1;
        }
        text += "" + (char) (v >>> 24) + (char) (v >>> 16 & 255) + (char) (v >>> 8 & 255) + (char) (v & 255);
        return text.length();
    }

    boolean end(int n) {
        if (n < 0 || n > text.length()) {
            return false;
        }
        text = text.substring(0, n);
        return true;
    }

    static int wordFault(String s) {
        for (int p = 0; p < s.length(); p++) {
            if (p == 10 || s.charAt(p) < 'a' || s.charAt(p) > 'd') {
                return p;
            }
        }
        return s.isEmpty() ? 0 : -1;
    }

    private boolean canString(String s) {
        for (int colour = 0; colour < 4; colour++) {
            if (of(s, (char) ('a' + colour)) > state.stock[colour]) {
                return false;
            }
        }
        return true;
    }

    int strings() {
        String s = takeText();
        if (wordFault(s) >= 0) {
            return -1 - wordFault(s);
        }
        if (state.bracelets.size() == 5) {
            return -100;
        }
        if (!canString(s)) {
            return -101;
        }
        remember();
        for (char c : s.toCharArray()) {
            state.stock[c - 'a']--;
        }
        state.bracelets.add(s);
        return state.bracelets.size() - 1;
    }

    int rule() {
        String s = takeText();
        int fault = ruleFault(s);
        if (fault >= 0) {
            return -1 - fault;
        }
        rule = s;
        return 0;
    }

    int bracelet(int b, int what) {
        if (none(b) || what < 0 || what > 5) {
            throw new NoSuchElementException();
        }
        int bits = 0;
        for (char c : of(b).toCharArray()) {
            bits |= 1 << c - 'a';
        }
        return new int[] {of(b).length(), bits, t(of(b)), f(of(b)), price(b, rule), alikeTo(of(b)) - 1}[what];
    }

    int bead(int b, int bead) {
        if (none(b) || bead < 0 || bead >= of(b).length()) {
            throw new NoSuchElementException();
        }
        return of(b).charAt(bead) - 'a';
    }

    int stock(int colour) {
        if (colour < 0 || colour > 3) {
            throw new NoSuchElementException();
        }
        return state.stock[colour];
    }

    int sheet(int kind, int n, int f, int step) {
        if (kind < 0 || kind > 3 || n > 4) {
            return -1;
        }
        if (kind < 3 && n < 0) {
            return -2;
        }
        state.stock = new int[4];
        if (kind == 3) {
            return -3;
        }
        int v = f;
        for (int i = 0; i < n; i++) {
            int entry = kind == 0 ? (byte) v : kind == 1 ? (short) v : v;
            state.stock[i] = entry < 0 ? 0 : entry > 99 ? 99 : entry;
            v += step;
        }
        return Arrays.stream(state.stock).sum();
    }

    // ---- what is done

    private void remember() {
        past.add(state.copy());
        if (past.size() > 15) {
            past.remove(0);
        }
    }

    private void store(int colour, int n) {
        state.stock[colour] = Math.min(99, state.stock[colour] + n);
    }

    /** An act by the letter that a day has for it; what it changes it changes in the state. */
    int act(char act, int a, int b, int c) {
        switch (act) {
            case 'r':
                if (none(a) || b < 0 || b > 99) {
                    return -1;
                }
                state.bracelets.set(a, rolled(of(a), b));
                return of(a).charAt(0) - 'a';
            case 'f':
                if (none(a)) {
                    return -1;
                }
                state.bracelets.set(a, flipped(of(a)));
                return of(a).charAt(0) - 'a';
            case 'x':
                return swap(a, b);
            case 't':
                return thread(a, b, c);
            case 'c':
                return cut(a, b);
            case 'j':
                if (none(a) || none(b) || a == b) {
                    return -1;
                }
                if (of(a).length() + of(b).length() > 10) {
                    return -2;
                }
                String joined = of(a) + of(b);
                state.bracelets.set(a, joined);
                state.bracelets.remove(b);
                return joined.length();
            case 'u':
                if (none(a)) {
                    return -1;
                }
                String gone = state.bracelets.remove(a);
                for (int colour = 0; colour < 4; colour++) {
                    store(colour, of(gone, (char) ('a' + colour)));
                }
                return gone.length();
            case 's':
                if (none(a)) {
                    return -1;
                }
                int price = price(a, rule);
                state.bracelets.remove(a);
                state.purse = Math.min(9999, state.purse + price);
                return price;
            default:
                return buy(a, b);
        }
    }

    private int swap(int a, int b) {
        if (none(a) || b < 0 || b >= of(a).length()) {
            return -1;
        }
        char[] beads = of(a).toCharArray();
        int behind = (b + 1) % beads.length;
        if (beads[b] == beads[behind]) {
            return -2;
        }
        char was = beads[b];
        beads[b] = beads[behind];
        beads[behind] = was;
        state.bracelets.set(a, new String(beads));
        return 10 * (beads[b] - 'a') + beads[behind] - 'a';
    }

    private int thread(int a, int b, int c) {
        if (none(a) || b < 0 || b > of(a).length() || c < 0 || c > 3) {
            return -1;
        }
        if (of(a).length() == 10) {
            return -2;
        }
        if (state.stock[c] == 0) {
            return -3;
        }
        state.stock[c]--;
        state.bracelets.set(a, of(a).substring(0, b) + (char) ('a' + c) + of(a).substring(b));
        return of(a).length();
    }

    private int cut(int a, int b) {
        if (none(a) || b < 0 || b >= of(a).length()) {
            return -1;
        }
        if (of(a).length() == 1) {
            return -2;
        }
        int colour = of(a).charAt(b) - 'a';
        store(colour, 1);
        state.bracelets.set(a, of(a).substring(0, b) + of(a).substring(b + 1));
        return colour;
    }

    private int buy(int a, int b) {
        if (a < 0 || a > 3 || b < 1 || b > 9) {
            return -1;
        }
        if (state.purse < b) {
            return -2;
        }
        if (state.stock[a] + b > 99) {
            return -3;
        }
        state.purse -= b;
        state.stock[a] += b;
        return state.stock[a];
    }

    int done(char act, int a, int b, int c) {
        State before = state.copy();
        int answer = act(act, a, b, c);
        if (answer >= 0) {
            State after = state;
            state = before;
            remember();
            state = after;
        }
        return answer;
    }

    /** The first act, if the text begins with a whole one. */
    private static final java.util.regex.Pattern ACT =
        java.util.regex.Pattern.compile("[rxcj][0-9][0-9]|[fus][0-9]|t[0-9][0-9][a-d]|b[a-d][1-9]");

    /** Each part of an act that could go on. */
    private static final java.util.regex.Pattern BEGUN =
        java.util.regex.Pattern.compile("([rxcj][0-9]?|[fus]|t[0-9]?[0-9]?|b[a-d]?)?");

    private static boolean canGoOn(String s) {
        String rest = s;
        while (true) {
            java.util.regex.Matcher matcher = ACT.matcher(rest);
            if (!matcher.lookingAt()) {
                return BEGUN.matcher(rest).matches();
            }
            rest = rest.substring(matcher.end());
        }
    }

    private static List<String> acts(String s) {
        List<String> acts = new ArrayList<>();
        java.util.regex.Matcher matcher = ACT.matcher(s);
        int at = 0;
        while (at < s.length() && matcher.find(at) && matcher.start() == at) {
            acts.add(matcher.group());
            at = matcher.end();
        }
        return at == s.length() ? acts : null;
    }

    static int dayFault(String s) {
        for (int p = 0; p < Math.min(60, s.length()); p++) {
            if (!canGoOn(s.substring(0, p + 1))) {
                return p;
            }
        }
        if (s.length() > 60) {
            return 60;
        }
        return acts(s) == null ? s.length() : -1;
    }

    private static int told(String act, int i) {
        char sign = i < act.length() ? act.charAt(i) : '0';
        return Character.isDigit(sign) ? sign - '0' : sign - 'a';
    }

    int day() {
        String s = takeText();
        if (dayFault(s) >= 0) {
            return -1 - dayFault(s);
        }
        State before = state.copy();
        int done = 0;
        int refused = 0;
        for (String act : acts(s)) {
            if (act(act.charAt(0), told(act, 1), told(act, 2), told(act, 3)) < 0) {
                refused = 1;
                break;
            }
            done++;
        }
        if (done > 0) {
            State after = state;
            state = before;
            remember();
            state = after;
        }
        tell(refused, state.bracelets.size());
        return done;
    }

    int undo() {
        if (past.isEmpty()) {
            return -1;
        }
        state = past.remove(past.size() - 1);
        return past.size();
    }

    // ---- as they are turned

    int least(int b) {
        if (none(b)) {
            return -1;
        }
        for (Map.Entry<Integer, String> turning : turnings(of(b)).entrySet()) {
            if (turning.getValue().equals(leastRow(of(b)))) {
                tellLetters(turning.getValue());
                return turning.getKey();
            }
        }
        throw new IllegalStateException();
    }

    int alike(int b, int other) {
        if (none(b) || none(other)) {
            return -1;
        }
        int first = -2;
        int number = 0;
        for (Map.Entry<Integer, String> turning : turnings(of(b)).entrySet()) {
            if (turning.getValue().equals(of(other))) {
                first = number == 0 ? turning.getKey() : first;
                number++;
            }
        }
        if (number > 0) {
            tell(number);
        }
        return first;
    }

    int kinds() {
        row = new ArrayList<>();
        for (String s : state.bracelets) {
            long first = 0;
            while (!isAlike(s, of((int) first))) {
                first++;
            }
            row.add(first);
        }
        return kindNumber();
    }

    private int kindNumber() {
        TreeSet<String> kinds = new TreeSet<>();
        for (String s : state.bracelets) {
            kinds.add(leastRow(s));
        }
        return kinds.size();
    }

    int far(int b, int other) {
        if (none(b) || none(other)) {
            return -1;
        }
        if (of(b).length() != of(other).length()) {
            return -2;
        }
        int fewest = 99;
        for (Map.Entry<Integer, String> turning : turnings(of(b)).entrySet()) {
            int apart = 0;
            for (int i = 0; i < of(b).length(); i++) {
                if (turning.getValue().charAt(i) != of(other).charAt(i)) {
                    apart++;
                }
            }
            if (apart < fewest) {
                fewest = apart;
                tell(turning.getKey());
            }
        }
        return fewest;
    }

    int finds(int b) {
        String s = takeText();
        if (wordFault(s) >= 0) {
            return -1 - wordFault(s);
        }
        if (none(b)) {
            return -100;
        }
        if (s.length() > of(b).length()) {
            return -101;
        }
        int bits = 0;
        for (int i = 0; i < of(b).length(); i++) {
            if (rolled(of(b), i).startsWith(s)) {
                bits |= 1 << i;
            }
        }
        tell(Integer.bitCount(bits));
        return bits;
    }

    int words(int b, int w) {
        if (none(b) || w < 1 || w > of(b).length()) {
            return -1;
        }
        Map<String, List<Integer>> places = new HashMap<>();
        for (int i = 0; i < of(b).length(); i++) {
            places.computeIfAbsent(rolled(of(b), i).substring(0, w), key -> new ArrayList<>()).add(i);
        }
        int most = 0;
        int first = 99;
        for (List<Integer> at : places.values()) {
            if (at.size() > most || at.size() == most && at.get(0) < first) {
                most = at.size();
                first = at.get(0);
            }
        }
        tell(most, first);
        return places.size();
    }

    int twice(int b) {
        if (none(b)) {
            return -1;
        }
        int longest = 0;
        tell();
        for (int i = 0; i < of(b).length(); i++) {
            for (int j = i + 1; j < of(b).length(); j++) {
                int same = 0;
                while (same + 1 < of(b).length() && rolled(of(b), i).charAt(same) == rolled(of(b), j).charAt(same)) {
                    same++;
                }
                if (same > longest) {
                    longest = same;
                    tell(i, j);
                }
            }
        }
        return longest;
    }

    int arc(int b) {
        if (none(b)) {
            return -1;
        }
        int longest = 0;
        for (int i = 0; i < of(b).length(); i++) {
            for (int w = 1; w <= of(b).length(); w++) {
                String arc = rolled(of(b), i).substring(0, w);
                if (w > longest && arc.equals(flipped(arc))) {
                    longest = w;
                    tell(i);
                }
            }
        }
        return longest;
    }

    // ---- kinds

    private static final Map<String, TreeSet<String>> LISTED = new HashMap<>();

    /** Least rows of all kinds of n beads of the first k colours. */
    static TreeSet<String> listed(int n, int k) {
        TreeSet<String> known = LISTED.get(n + " " + k);
        if (known != null) {
            return known;
        }
        TreeSet<String> all = new TreeSet<>();
        for (String s : rows(n, k)) {
            all.add(leastRow(s));
        }
        LISTED.put(n + " " + k, all);
        return all;
    }

    static List<String> rows(int n, int k) {
        List<String> rows = new ArrayList<>();
        rows.add("");
        for (int i = 0; i < n; i++) {
            List<String> longer = new ArrayList<>();
            for (String s : rows) {
                for (int colour = 0; colour < k; colour++) {
                    longer.add(s + (char) ('a' + colour));
                }
            }
            rows = longer;
        }
        return rows;
    }

    static String leastRoll(String s) {
        String least = s;
        for (int by = 1; by < s.length(); by++) {
            least = rolled(s, by).compareTo(least) < 0 ? rolled(s, by) : least;
        }
        return least;
    }

    int many(int n, int k) {
        if (n < 1 || n > 10 || k < 1 || k > 4) {
            return -1;
        }
        TreeSet<String> byRolls = new TreeSet<>();
        int whole = 0;
        for (String s : rows(n, k)) {
            if (byRolls.add(leastRoll(s)) && t(s) == n) {
                whole++;
            }
        }
        tell(byRolls.size(), whole);
        return listed(n, k).size();
    }

    private static void lay(String laid, String rest, TreeSet<String> all) {
        if (rest.isEmpty()) {
            all.add(laid);
        }
        for (int i = 0; i < rest.length(); i++) {
            if (rest.indexOf(rest.charAt(i)) == i) {
                lay(laid + rest.charAt(i), rest.substring(0, i) + rest.substring(i + 1), all);
            }
        }
    }

    int ways() {
        String s = takeText();
        if (wordFault(s) >= 0) {
            return -1 - wordFault(s);
        }
        TreeSet<String> all = new TreeSet<>();
        lay("", s, all);
        TreeSet<String> byRolls = new TreeSet<>();
        TreeSet<String> kinds = new TreeSet<>();
        for (String laid : all) {
            byRolls.add(leastRoll(laid));
        }
        for (String laid : byRolls) {
            kinds.add(leastRow(laid));
        }
        tell(byRolls.size(), all.size());
        return kinds.size();
    }

    int nth(int n, int k, int m) {
        if (n < 1 || n > 7 || k < 1 || k > 4 || m < 0 || m > 999) {
            return -1;
        }
        List<String> all = new ArrayList<>(listed(n, k));
        if (m >= all.size()) {
            return -2;
        }
        tellLetters(all.get(m));
        return 0;
    }

    private static int coloursOf(String s) {
        return s.chars().max().getAsInt() - 'a' + 1;
    }

    int rank(int b) {
        if (none(b)) {
            return -1;
        }
        if (of(b).length() > 7) {
            return -2;
        }
        return listed(of(b).length(), coloursOf(of(b))).headSet(leastRow(of(b))).size();
    }

    int next(int b) {
        if (none(b)) {
            return -1;
        }
        if (of(b).length() > 7) {
            return -3;
        }
        String next = listed(of(b).length(), coloursOf(of(b))).higher(leastRow(of(b)));
        if (next == null) {
            return -2;
        }
        tellLetters(next);
        return 0;
    }

    private static boolean hasEachOnce(String s, int w) {
        TreeSet<String> words = new TreeSet<>();
        for (int i = 0; i < s.length(); i++) {
            words.add(s.repeat(w + 1).substring(i, i + w));
        }
        return words.size() == s.length();
    }

    /** The least row that goes on with all words of w different, by going through all of them in turn. */
    private static String seekOnce(String begun, int k, int w, int length) {
        for (int i = 0; i + w <= begun.length(); i++) {
            if (begun.indexOf(begun.substring(i, i + w), i + 1) >= 0) {
                return null;
            }
        }
        if (begun.length() == length) {
            return hasEachOnce(begun, w) ? begun : null;
        }
        for (int colour = 0; colour < k; colour++) {
            String found = seekOnce(begun + (char) ('a' + colour), k, w, length);
            if (found != null) {
                return found;
            }
        }
        return null;
    }

    int once(int k, int w) {
        if (k < 1 || k > 4 || w < 1 || w > 4 || Math.pow(k, w) > 16) {
            return -1;
        }
        String found = seekOnce("", k, w, (int) Math.round(Math.pow(k, w)));
        tellLetters(found);
        return found.length();
    }

    // ---- out of stock

    int made(int n) {
        if (n < 1 || n > 7) {
            return -1;
        }
        String first = "";
        int number = 0;
        for (String s : listed(n, 4)) {
            if (canString(s)) {
                first = number == 0 ? s : first;
                number++;
            }
        }
        tellLetters(first);
        return number;
    }

    int dear(int n) {
        if (n < 1 || n > 6) {
            return -1;
        }
        int dearest = -2;
        for (String s : listed(n, 4)) {
            if (canString(s) && price(rule, s, alikeTo(s)) > dearest) {
                dearest = price(rule, s, alikeTo(s));
                tellLetters(s);
            }
        }
        return dearest;
    }

    int odds(int b) {
        if (none(b)) {
            return -1;
        }
        TreeSet<String> all = new TreeSet<>();
        lay("", of(b), all);
        int alike = new TreeSet<>(turnings(of(b)).values()).size();
        int common = 1;
        for (int d = 1; d <= alike; d++) {
            common = alike % d == 0 && all.size() % d == 0 ? d : common;
        }
        tell(alike / common, all.size() / common);
        return 0;
    }

    // ---- where the clasp was, which one it was

    int felt(int p, int colour) {
        if (p < 0 || p > 9 || colour < 0 || colour > 3 || felt.size() == 10) {
            return -1;
        }
        felt.add(new int[] {p, colour});
        return felt.size();
    }

    int forget() {
        int before = felt.size();
        felt.clear();
        return before;
    }

    private List<Integer> left(String s) {
        List<Integer> left = new ArrayList<>();
        for (int by = 0; by < s.length(); by++) {
            String row = rolled(s, by);
            if (felt.stream().allMatch(one -> row.charAt(one[0] % row.length()) == 'a' + one[1])) {
                left.add(by);
            }
        }
        return left;
    }

    int guess(int b) {
        if (none(b)) {
            return -1;
        }
        int bits = 0;
        for (int by : left(of(b))) {
            bits |= 1 << by;
        }
        tell(left(of(b)).size(), left(of(b)).contains(0) ? 1 : 0);
        return bits;
    }

    int feels(int b) {
        if (none(b)) {
            return -1;
        }
        if (left(of(b)).isEmpty()) {
            return -2;
        }
        int best = -1;
        int fewest = 99;
        for (int p = 0; p < of(b).length(); p++) {
            int[] by = new int[4];
            for (int roll : left(of(b))) {
                by[rolled(of(b), roll).charAt(p) - 'a']++;
            }
            int most = Arrays.stream(by).max().getAsInt();
            if (most < fewest) {
                fewest = most;
                best = p;
            }
        }
        tell(fewest);
        return best;
    }

    private static boolean canHear(int what, int v) {
        return what == 1 ? v >= 0 && v <= 3 : what >= 0 && what <= 3 && v >= 1 && v <= 9;
    }

    int heard(int what, int v) {
        if (!canHear(what, v) || heard.size() == 12) {
            return -1;
        }
        heard.add(new int[] {what, v});
        return heard.size();
    }

    int denies() {
        int before = heard.size();
        heard.clear();
        return before;
    }

    private static boolean isSo(String s, int what, int v) {
        return what == 0 ? s.length() >= v : what == 1 ? of(s, (char) ('a' + v)) > 0 : what == 2 ? t(s) == v : m(s) >= v;
    }

    private List<Integer> fitting() {
        List<Integer> fit = new ArrayList<>();
        for (int b = 0; b < state.bracelets.size(); b++) {
            String s = of(b);
            if (heard.stream().allMatch(one -> isSo(s, one[0], one[1]))) {
                fit.add(b);
            }
        }
        return fit;
    }

    int fits() {
        tell(fitting().size());
        return fitting().stream().mapToInt(b -> 1 << b).sum();
    }

    int asks() {
        List<Integer> fit = fitting();
        if (fit.isEmpty()) {
            return -2;
        }
        int fewest = 99;
        int best = -1;
        for (int what = 0; what < 4; what++) {
            for (int v = 0; v < 10; v++) {
                int asked = what;
                int value = v;
                int so = (int) fit.stream().filter(b -> isSo(of(b), asked, value)).count();
                int most = Math.max(so, fit.size() - so);
                if (canHear(what, v) && most < fewest) {
                    fewest = most;
                    best = 10 * what + v;
                }
            }
        }
        tell(fewest);
        return best;
    }

    // ---- a game, laws, bargains, years

    private static final Map<Integer, Integer> GRUNDY = new HashMap<>();

    /** The worth of an open row of n beads as a game (any two parts are as good as their worths without carry). */
    static int worth(int n) {
        if (GRUNDY.containsKey(n)) {
            return GRUNDY.get(n);
        }
        TreeSet<Integer> reached = new TreeSet<>();
        for (int take = 1; take <= 2; take++) {
            for (int left = 0; left + take <= n; left++) {
                reached.add(worth(left) ^ worth(n - take - left));
            }
        }
        int worth = 0;
        while (reached.contains(worth)) {
            worth++;
        }
        GRUNDY.put(n, worth);
        return worth;
    }

    int ring(int n) {
        if (n < 0 || n > 40) {
            return -1;
        }
        tell();
        for (int take = 1; take <= 2 && take <= n; take++) {
            if (worth(n - take) == 0) {
                tell(take);
                return 1;
            }
        }
        return 0;
    }

    int law() {
        String s = takeText();
        int fault = ruleFault(s);
        if (fault >= 0) {
            return -10000 - fault;
        }
        tell(prices(s), prices(rule));
        return prices(s) - prices(rule);
    }

    private static int has(int v, int x, int y) {
        if (x + y <= v) {
            return x + (v - x - y) / 2;
        }
        return x > y ? -2 : 0;
    }

    int bargains(int v) {
        if (v < 0 || v > 18) {
            return -1;
        }
        int number = 0;
        tell();
        for (int x = 0; x <= 9; x++) {
            for (int y = 0; y <= 9; y++) {
                boolean rests = true;
                for (int z = 0; z <= 9; z++) {
                    rests = rests && has(v, z, y) <= has(v, x, y) && has(v, z, x) <= has(v, y, x);
                }
                if (rests) {
                    number++;
                    if (number == 1) {
                        tell(x, y);
                    }
                }
            }
        }
        return number;
    }

    private int r;

    private int draw(int n) {
        r = r * 1103515245 + 12345;
        return (int) ((r & 0xFFFFFFFFL) / 65536 % n);
    }

    int years(int seed, int n) {
        if (n < 1 || n > 60) {
            return -1;
        }
        State before = state.copy();
        r = seed;
        for (int i = 0; i < n; i++) {
            int what = draw(4);
            if (!state.bracelets.isEmpty()) {
                int b = draw(state.bracelets.size());
                int number = draw(10);
                int rest = number % of(b).length();
                char act = "rxtc".charAt(what);
                act(act, b, act == 'r' ? number : act == 't' ? 0 : rest, number % 4);
            }
        }
        tell(kindNumber(), Arrays.stream(state.stock).sum());
        int beads = count(1);
        state = before;
        return beads;
    }

    // ---- kept

    boolean keep(int i) {
        if (i < 0 || i > 2) {
            return false;
        }
        kept[i] = state.copy();
        return true;
    }

    boolean again(int i) {
        if (i < 0 || i > 2 || kept[i] == null) {
            return false;
        }
        state = kept[i].copy();
        past.clear();
        return true;
    }

    int count(int what) {
        switch (what) {
            case 0: return state.bracelets.size();
            case 1: return state.bracelets.stream().mapToInt(String::length).sum();
            case 2: return Arrays.stream(state.stock).sum();
            case 3: return state.purse;
            case 4: return prices(rule);
            case 5: return felt.size();
            case 6: return heard.size();
            case 7: return past.size();
            case 8: return row.size();
            case 9: return text.length();
            default: return -100;
        }
    }

    long row(int i) {
        if (i < 0 || i >= row.size()) {
            throw new NoSuchElementException();
        }
        return row.get(i);
    }
}
