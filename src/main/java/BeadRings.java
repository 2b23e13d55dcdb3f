import java.util.NoSuchElementException;

/** A stall of bead bracelets, as told in DOC.md; the promises' numbers stand at the public calls. */
public final class BeadRings {
    public static final int NONE = -1;

    private static final int COLOURS = 4;
    private static final int MOST_BRACELETS = 5;
    private static final int MOST_BEADS = 10;
    private static final int MOST_STOCK = 99;
    private static final int MOST_PURSE = 9999;
    private static final int FIRST_STOCK = 12;
    private static final int MOST_SIGNS = 80;
    private static final int MOST_RULE_SIGNS = 40;
    private static final int MOST_DAY_SIGNS = 60;
    private static final int MOST_UNDONE = 15;
    private static final int MOST_KEPT = 3;
    private static final int MOST_FELT = 10;
    private static final int MOST_HEARD = 12;
    private static final int LONGEST_ROW = 16;
    private static final int LISTED_BEADS = 7;

    private final Stall stall;
    private final Stall drawnStall;
    private final Past past;
    private final Text text;
    private final Told told;
    private final KindLists lists;
    private final Clues feltBeads;
    private final Clues hearsay;
    private final int[] tally;
    private final int[] leastRows;
    private Rule inForce;
    private Rule draft;
    private int drawn;

    /** Promise 1. */
    public BeadRings() {
        stall = new Stall();
        drawnStall = new Stall();
        past = new Past();
        text = new Text();
        told = new Told();
        lists = new KindLists();
        feltBeads = new Clues(MOST_FELT);
        hearsay = new Clues(MOST_HEARD);
        tally = new int[COLOURS];
        leastRows = new int[MOST_BRACELETS];
        inForce = new Rule();
        draft = new Rule();
        for (int colour = 0; colour < COLOURS; colour++) {
            stall.stocked[colour] = FIRST_STOCK;
        }
    }

    // ---- stock, bracelets

    /** Promise 2. */
    public int sign(int v) {
        return text.append(v);
    }

    /** Promise 3. */
    public boolean end(int n) {
        return text.shorten(n);
    }

    /** Promise 4. */
    public int strings() {
        int fault = text.takeWord();
        if (fault < 0) {
            return fault;
        }
        past.mark(stall);
        return past.settle(stall.string(text.word, text.wordSize));
    }

    /** Promise 5. */
    public int rule() {
        int fault = draft.read(text);
        text.empty();
        if (fault >= 0) {
            return -1 - fault;
        }
        Rule before = inForce;
        inForce = draft;
        draft = before;
        return 0;
    }

    /** Promise 6. */
    public int bracelet(int bracelet, int what) throws NoSuchElementException {
        if (stall.lacks(bracelet)) {
            throw new NoSuchElementException("no such bracelet");
        }
        int beads = stall.rows[bracelet];
        int n = stall.sizes[bracelet];
        switch (what) {
            case 0:
                return n;
            case 1:
                return Beads.colourBits(beads, n);
            case 2:
                return Beads.period(beads, n);
            case 3:
                return Beads.mirrors(beads, n);
            case 4:
                return stall.priceOf(bracelet, inForce);
            case 5:
                return stall.othersAlike(bracelet);
            default:
                throw new NoSuchElementException("no such question");
        }
    }

    /** Promise 7. */
    public int bead(int bracelet, int bead) throws NoSuchElementException {
        if (stall.lacksBead(bracelet, bead)) {
            throw new NoSuchElementException("no such bead");
        }
        return Beads.colourAt(stall.rows[bracelet], stall.sizes[bracelet], bead);
    }

    /** Promise 8. */
    public int stock(int colour) throws NoSuchElementException {
        if (Beads.isNoColour(colour)) {
            throw new NoSuchElementException("no such colour");
        }
        return stall.stocked[colour];
    }

    /** Promise 9. */
    public int sheet(int kind, int n, int f, int step) {
        if (kind < 0 || kind > 3 || n > COLOURS) {
            return NONE;
        }
        if (kind == 3) {
            stall.stockFrom(kind, 0, 0, 0);
            return -3;
        }
        if (n < 0) {
            return -2;
        }
        stall.stockFrom(kind, n, f, step);
        return stall.stockOfAll();
    }

    // ---- what is done

    /** Promise 10. */
    public int rolls(int bracelet, int n) {
        past.mark(stall);
        return past.settle(stall.roll(bracelet, n));
    }

    /** Promise 11. */
    public int flips(int bracelet) {
        past.mark(stall);
        return past.settle(stall.flip(bracelet));
    }

    /** Promise 12. */
    public int swaps(int bracelet, int bead) {
        past.mark(stall);
        return past.settle(stall.swap(bracelet, bead));
    }

    /** Promise 13. */
    public int threads(int bracelet, int bead, int colour) {
        past.mark(stall);
        return past.settle(stall.thread(bracelet, bead, colour));
    }

    /** Promise 14. */
    public int cuts(int bracelet, int bead) {
        past.mark(stall);
        return past.settle(stall.cut(bracelet, bead));
    }

    /** Promise 15. */
    public int joins(int bracelet, int other) {
        past.mark(stall);
        return past.settle(stall.join(bracelet, other));
    }

    /** Promise 16. */
    public int parts(int bracelet) {
        past.mark(stall);
        return past.settle(stall.part(bracelet));
    }

    /** Promise 17. */
    public int sells(int bracelet) {
        past.mark(stall);
        return past.settle(stall.sell(bracelet, inForce));
    }

    /** Promise 18. */
    public int buys(int colour, int n) {
        past.mark(stall);
        return past.settle(stall.buy(colour, n));
    }

    /** Promise 19. */
    public int day() {
        int fault = Day.fault(text);
        if (fault >= 0) {
            text.empty();
            return -1 - fault;
        }
        past.mark(stall);
        int done = 0;
        int refused = 0;
        for (int p = 0; p < text.size() && refused == 0; p += 1 + Day.form(text.signAt(p)).length()) {
            if (Day.act(text, p, stall, inForce) < 0) {
                refused = 1;
            } else {
                done++;
            }
        }
        text.empty();
        // A day on which nothing was done is none that could be undone.
        past.settle(done > 0 ? done : NONE);
        told.begin();
        told.add(refused);
        told.add(stall.number);
        return done;
    }

    /** Promise 20. */
    public int undo() {
        return past.bringBack(stall);
    }

    // ---- as they are turned

    /** Promise 21. */
    public int least(int bracelet) {
        if (stall.lacks(bracelet)) {
            return NONE;
        }
        int beads = stall.rows[bracelet];
        int n = stall.sizes[bracelet];
        int leastRow = Beads.leastRow(beads, n);
        told.begin();
        told.addRow(leastRow, n);
        return Beads.firstTurning(beads, leastRow, n);
    }

    /** Promise 22. */
    public int alike(int bracelet, int other) {
        if (stall.lacks(bracelet) || stall.lacks(other)) {
            return NONE;
        }
        int n = stall.sizes[bracelet];
        if (n != stall.sizes[other]) {
            return -2;
        }
        int beads = stall.rows[bracelet];
        int turning = Beads.firstTurning(beads, stall.rows[other], n);
        if (turning < 0) {
            return -2;
        }
        // As many turnings bring a row to one like it as leave it as it is.
        told.begin();
        told.add(Beads.stays(beads, n));
        return turning;
    }

    /** Promise 23. */
    public int kinds() {
        told.begin();
        for (int b = 0; b < stall.number; b++) {
            told.add(stall.firstAlike(b));
        }
        return stall.kindNumber();
    }

    /** Promise 24. */
    public int far(int bracelet, int other) {
        if (stall.lacks(bracelet) || stall.lacks(other)) {
            return NONE;
        }
        int n = stall.sizes[bracelet];
        if (n != stall.sizes[other]) {
            return -2;
        }
        int fewest = n + 1;
        int best = 0;
        for (int i = 0; i < 2 * n; i++) {
            int apart = Beads.apart(Beads.turned(stall.rows[bracelet], n, i), stall.rows[other]);
            if (apart < fewest) {
                fewest = apart;
                best = i;
            }
        }
        told.begin();
        told.add(Beads.turningName(best, n));
        return fewest;
    }

    /** Promise 25. */
    public int finds(int bracelet) {
        int fault = text.takeWord();
        if (fault < 0) {
            return fault;
        }
        if (stall.lacks(bracelet)) {
            return -100;
        }
        int n = stall.sizes[bracelet];
        if (text.wordSize > n) {
            return -101;
        }
        int found = Beads.placesOf(stall.rows[bracelet], n, text.word, text.wordSize);
        told.begin();
        told.add(Integer.bitCount(found));
        return found;
    }

    /** Promise 26. */
    public int words(int bracelet, int w) {
        if (stall.lacks(bracelet) || w < 1 || w > stall.sizes[bracelet]) {
            return NONE;
        }
        int beads = stall.rows[bracelet];
        int n = stall.sizes[bracelet];
        int different = 0;
        int most = 0;
        int first = 0;
        for (int i = 0; i < n; i++) {
            int places = Beads.placesOf(beads, n, Beads.wordAt(beads, n, i, w), w);
            int times = Integer.bitCount(places);
            if ((places & ((1 << i) - 1)) == 0) {
                different++;
            }
            if (times > most) {
                most = times;
                first = i;
            }
        }
        told.begin();
        told.add(most);
        told.add(first);
        return different;
    }

    /** Promise 27. */
    public int twice(int bracelet) {
        if (stall.lacks(bracelet)) {
            return NONE;
        }
        int beads = stall.rows[bracelet];
        int n = stall.sizes[bracelet];
        told.begin();
        for (int w = n - 1; w > 0; w--) {
            for (int i = 0; i < n; i++) {
                int places = Beads.placesOf(beads, n, Beads.wordAt(beads, n, i, w), w);
                int behind = places >> (i + 1);
                if (behind != 0) {
                    told.add(i);
                    told.add(i + 1 + Integer.numberOfTrailingZeros(behind));
                    return w;
                }
            }
        }
        return 0;
    }

    /** Promise 28. */
    public int arc(int bracelet) {
        if (stall.lacks(bracelet)) {
            return NONE;
        }
        int beads = stall.rows[bracelet];
        int n = stall.sizes[bracelet];
        told.begin();
        for (int w = n; w > 1; w--) {
            for (int i = 0; i < n; i++) {
                int word = Beads.wordAt(beads, n, i, w);
                if (Beads.flipped(word, w) == word) {
                    told.add(i);
                    return w;
                }
            }
        }
        told.add(0);
        return 1;
    }

    // ---- kinds

    /** Promise 29. */
    public int many(int n, int k) {
        if (n < 1 || n > MOST_BEADS || Beads.isNoColour(k - 1)) {
            return NONE;
        }
        int byRolls = Counts.keptByRolls(n, k);
        told.begin();
        told.add(byRolls / n);
        told.add(Counts.rowsThatNoRollKeeps(n, k) / n);
        return (byRolls + Counts.keptByFlips(n, k)) / (2 * n);
    }

    /** Promise 30. */
    public int ways() {
        int fault = text.takeWord();
        if (fault < 0) {
            return fault;
        }
        int n = text.wordSize;
        Beads.tallyInto(tally, text.word, n);
        int byRolls = Counts.toldKeptByRolls(tally, n);
        told.begin();
        told.add(byRolls / n);
        told.add(Counts.rowsOf(tally, 1));
        return (byRolls + Counts.toldKeptByFlips(tally, n)) / (2 * n);
    }

    /** Promise 31. */
    public int nth(int n, int k, int m) {
        if (KindLists.lacks(n) || Beads.isNoColour(k - 1) || m < 0 || m > 999) {
            return NONE;
        }
        int found = lists.kindAt(n, k, m);
        if (found < 0) {
            return -2;
        }
        told.begin();
        told.addRow(found, n);
        return 0;
    }

    /** Promise 32. */
    public int rank(int bracelet) {
        if (stall.lacks(bracelet)) {
            return NONE;
        }
        int n = stall.sizes[bracelet];
        if (KindLists.lacks(n)) {
            return -2;
        }
        return lists.kindsAhead(n, stall.leastRow(bracelet));
    }

    /** Promise 33. */
    public int next(int bracelet) {
        if (stall.lacks(bracelet)) {
            return NONE;
        }
        int n = stall.sizes[bracelet];
        if (KindLists.lacks(n)) {
            return -3;
        }
        int found = lists.kindBehind(n, stall.leastRow(bracelet));
        if (found < 0) {
            return -2;
        }
        told.begin();
        told.addRow(found, n);
        return 0;
    }

    /** Promise 34. */
    public int once(int k, int w) {
        if (Beads.isNoColour(k - 1) || w < 1 || w > 4 || Counts.power(k, w) > LONGEST_ROW) {
            return NONE;
        }
        told.begin();
        for (int colour = 0; colour < k; colour++) {
            addOnce(colour, 1, 1, k, w);
        }
        return told.size;
    }

    // ---- out of stock

    /** Promise 35. */
    public int made(int n) {
        if (KindLists.lacks(n)) {
            return NONE;
        }
        int number = 0;
        told.begin();
        for (int i = 0, all = lists.number(n); i < all; i++) {
            int kind = lists.kind(n, i);
            if (stall.hasBeadsFor(kind, n)) {
                if (number == 0) {
                    told.addRow(kind, n);
                }
                number++;
            }
        }
        return number;
    }

    /** Promise 36. */
    public int dear(int n) {
        if (KindLists.lacks(n) || n == LISTED_BEADS) {
            return NONE;
        }
        noteLeastRows(n);
        int dearest = -1;
        int best = 0;
        for (int i = 0, all = lists.number(n); i < all; i++) {
            int kind = lists.kind(n, i);
            if (stall.hasBeadsFor(kind, n)) {
                int price = inForce.price(kind, n, numberNoted(kind));
                if (price > dearest) {
                    dearest = price;
                    best = kind;
                }
            }
        }
        if (dearest < 0) {
            return -2;
        }
        told.begin();
        told.addRow(best, n);
        return dearest;
    }

    /** Promise 37. */
    public int odds(int bracelet) {
        if (stall.lacks(bracelet)) {
            return NONE;
        }
        int beads = stall.rows[bracelet];
        int n = stall.sizes[bracelet];
        Beads.tallyInto(tally, beads, n);
        // Each row of the kind comes by as many of the 2n turnings as leave the row as it is.
        int rowsAlike = 2 * n / Math.max(1, Beads.stays(beads, n));
        int rows = Counts.rowsOf(tally, 1);
        int common = Math.max(1, Counts.commonDivisor(rowsAlike, rows));
        told.begin();
        told.add(rowsAlike / common);
        told.add(rows / common);
        return 0;
    }

    // ---- where the clasp was

    /** Promise 38. */
    public int felt(int p, int colour) {
        return Clues.canBeFelt(p, colour) ? feltBeads.add(p, colour) : NONE;
    }

    /** Promise 39. */
    public int forget() {
        return feltBeads.empty();
    }

    /** Promise 40. */
    public int guess(int bracelet) {
        if (stall.lacks(bracelet)) {
            return NONE;
        }
        int left = feltBeads.rollsLeft(stall.rows[bracelet], stall.sizes[bracelet]);
        told.begin();
        told.add(Integer.bitCount(left));
        told.add(left & 1);
        return left;
    }

    /** Promise 41. */
    public int feels(int bracelet) {
        if (stall.lacks(bracelet)) {
            return NONE;
        }
        int beads = stall.rows[bracelet];
        int n = stall.sizes[bracelet];
        int left = feltBeads.rollsLeft(beads, n);
        if (left == 0) {
            return -2;
        }
        int best = 0;
        int fewest = n + 1;
        for (int p = 0; p < n; p++) {
            int most = Clues.mostLeft(beads, n, left, p);
            if (most < fewest) {
                fewest = most;
                best = p;
            }
        }
        told.begin();
        told.add(fewest);
        return best;
    }

    // ---- which one it was

    /** Promise 42. */
    public int heard(int what, int v) {
        return Clues.canBeHeard(what, v) ? hearsay.add(what, v) : NONE;
    }

    /** Promise 43. */
    public int denies() {
        return hearsay.empty();
    }

    /** Promise 44. */
    public int fits() {
        int left = hearsay.fitting(stall);
        told.begin();
        told.add(Integer.bitCount(left));
        return left;
    }

    /** Promise 45. */
    public int asks() {
        int left = hearsay.fitting(stall);
        if (left == 0) {
            return -2;
        }
        int best = 0;
        int fewest = MOST_BRACELETS + 1;
        for (int question = 0; question < 40; question++) {
            if (Clues.canBeHeard(question / 10, question % 10)) {
                int so = Integer.bitCount(left & Clues.suiting(stall, question / 10, question % 10));
                int most = Math.max(so, Integer.bitCount(left) - so);
                if (most < fewest) {
                    fewest = most;
                    best = question;
                }
            }
        }
        told.begin();
        told.add(fewest);
        return best;
    }

    // ---- a game, laws, bargains, years

    /**
     * Promise 46. Of three beads or more the first take leaves an open row; the other one takes its middle
     * (one or two) and then does on one side what is done on the other, and so takes the last one.
     */
    public int ring(int n) {
        if (n < 0 || n > 40) {
            return NONE;
        }
        told.begin();
        if (n == 1 || n == 2) {
            told.add(n);
            return 1;
        }
        return 0;
    }

    /** Promise 47. */
    public int law() {
        int fault = draft.read(text);
        text.empty();
        if (fault >= 0) {
            return -10000 - fault;
        }
        int byIt = stall.pricesOfAll(draft);
        int byRule = stall.pricesOfAll(inForce);
        told.begin();
        told.add(byIt);
        told.add(byRule);
        return byIt - byRule;
    }

    /** Promise 48. */
    public int bargains(int v) {
        if (v < 0 || v > 18) {
            return NONE;
        }
        int number = 0;
        told.begin();
        for (int x = 0; x < 10; x++) {
            for (int y = 0; y < 10; y++) {
                if (hasNoBetter(v, x, y) && hasNoBetter(v, y, x)) {
                    if (number == 0) {
                        told.add(x);
                        told.add(y);
                    }
                    number++;
                }
            }
        }
        return number;
    }

    /** Promise 49: drawn years are a question, so they pass on a copy. */
    public int years(int seed, int n) {
        if (n < 1 || n > 60) {
            return NONE;
        }
        drawnStall.copyFrom(stall);
        drawn = seed;
        for (int i = 0; i < n; i++) {
            passYear();
        }
        told.begin();
        told.add(drawnStall.kindNumber());
        told.add(drawnStall.stockOfAll());
        return drawnStall.beadsOfAll();
    }

    // ---- kept

    /** Promise 50. */
    public boolean keep(int i) {
        return past.keepUnder(i, stall);
    }

    /** Promise 51. */
    public boolean again(int i) {
        return past.takeKept(i, stall);
    }

    /** Promise 52. */
    public int count(int what) {
        switch (what) {
            case 0:
                return stall.number;
            case 1:
                return stall.beadsOfAll();
            case 2:
                return stall.stockOfAll();
            case 3:
                return stall.purse;
            case 4:
                return stall.pricesOfAll(inForce);
            case 5:
                return feltBeads.size;
            case 6:
                return hearsay.size;
            case 7:
                return past.number;
            case 8:
                return told.size;
            case 9:
                return text.size();
            default:
                return -100;
        }
    }

    /** Promise 53. */
    public long row(int i) throws NoSuchElementException {
        if (i < 0 || i >= told.size) {
            throw new NoSuchElementException("the row has no such number");
        }
        return told.numbers[i];
    }

    /**
     * Lays the words of w colours that no roll makes less one behind the other, the least first, each till it
     * comes again: this is known to be the least row in which each word comes just once.
     */
    private void addOnce(int start, int n, int period, int k, int w) {
        if (n >= w) {
            if (period > 0 && w % period == 0) {
                told.addRow(start >> 2 * (w - period), period);
            }
            return;
        }
        int same = start >> 2 * (period - 1) & 3;
        for (int colour = same; colour < k; colour++) {
            addOnce(start << 2 | colour, n + 1, colour == same ? period : n + 1, k, w);
        }
    }

    /** Those of n beads alone: so the kinds of n beads are priced without a look at each bracelet's turnings again. */
    private void noteLeastRows(int n) {
        for (int b = 0; b < MOST_BRACELETS; b++) {
            leastRows[b] = b < stall.number && stall.sizes[b] == n ? stall.leastRow(b) : NONE;
        }
    }

    private int numberNoted(int leastRow) {
        int number = 0;
        for (int b = 0; b < MOST_BRACELETS; b++) {
            if (leastRows[b] == leastRow) {
                number++;
            }
        }
        return number;
    }

    private static boolean hasNoBetter(int v, int own, int others) {
        int now = share(v, own, others);
        for (int z = 0; z < 10; z++) {
            if (share(v, z, others) > now) {
                return false;
            }
        }
        return true;
    }

    private static int share(int v, int own, int others) {
        int left = v - own - others;
        if (left >= 0) {
            return own + left / 2;
        }
        return own > others ? -2 : 0;
    }

    private void passYear() {
        int act = draw(4);
        if (drawnStall.number == 0) {
            return;
        }
        int b = draw(drawnStall.number);
        int drawnNumber = draw(10);
        int bead = drawnNumber % Math.max(1, drawnStall.sizes[b]);
        switch (act) {
            case 0:
                drawnStall.roll(b, drawnNumber);
                break;
            case 1:
                drawnStall.swap(b, bead);
                break;
            case 2:
                drawnStall.thread(b, 0, drawnNumber % COLOURS);
                break;
            default:
                drawnStall.cut(b, bead);
                break;
        }
    }

    private int draw(int n) {
        drawn = drawn * 1103515245 + 12345;
        return n > 0 ? (drawn >>> 16) % n : 0;
    }

    /**
     * Rows of 1 to 10 beads. A row is an int with two bits for each bead, the first bead highest: so rows of
     * as many beads are compared as ints are. Turnings are counted 0 .. 2n - 1, the flipped ones behind.
     */
    private static final class Beads {
        private static final int LOW_BITS = 0x55555;

        static boolean isNoColour(int colour) {
            return colour < 0 || colour >= COLOURS;
        }

        static int mask(int n) {
            return (1 << 2 * n) - 1;
        }

        static int colourAt(int row, int n, int bead) {
            return row >> 2 * (n - 1 - bead) & 3;
        }

        static int withColour(int row, int n, int bead, int colour) {
            int shift = 2 * (n - 1 - bead);
            return row & ~(3 << shift) | colour << shift;
        }

        static int rolled(int row, int n, int by) {
            int rest = n > 0 ? by % n : 0;
            int begins = 2 * (n - rest);
            return (row & (1 << begins) - 1) << 2 * rest | row >> begins;
        }

        static int flipped(int row, int n) {
            int flipped = 0;
            for (int i = 0; i < n; i++) {
                flipped = flipped << 2 | row >> 2 * i & 3;
            }
            return flipped;
        }

        static int turned(int row, int n, int i) {
            return i < n ? rolled(row, n, i) : rolled(flipped(row, n), n, i - n);
        }

        static int turningName(int i, int n) {
            return i < n ? i : 100 + i - n;
        }

        static int leastRow(int row, int n) {
            int flipped = flipped(row, n);
            int least = row;
            for (int by = 0; by < n; by++) {
                least = Math.min(least, Math.min(rolled(row, n, by), rolled(flipped, n, by)));
            }
            return least;
        }

        static boolean isLessFlipped(int row, int n) {
            int flipped = flipped(row, n);
            for (int by = 0; by < n; by++) {
                if (rolled(flipped, n, by) < row) {
                    return true;
                }
            }
            return false;
        }

        static int firstTurning(int row, int wanted, int n) {
            for (int i = 0; i < 2 * n; i++) {
                if (turned(row, n, i) == wanted) {
                    return turningName(i, n);
                }
            }
            return NONE;
        }

        static int period(int row, int n) {
            for (int by = 1; by < n; by++) {
                if (rolled(row, n, by) == row) {
                    return by;
                }
            }
            return n;
        }

        static int mirrors(int row, int n) {
            int flipped = flipped(row, n);
            int number = 0;
            for (int by = 0; by < n; by++) {
                if (rolled(flipped, n, by) == row) {
                    number++;
                }
            }
            return number;
        }

        /** By how many of the 2n turnings it is as it was. */
        static int stays(int row, int n) {
            return n / Math.max(1, period(row, n)) + mirrors(row, n);
        }

        static int numberOf(int colour, int row, int n) {
            int number = 0;
            for (int i = 0; i < n; i++) {
                if ((row >> 2 * i & 3) == colour) {
                    number++;
                }
            }
            return number;
        }

        static int colourBits(int row, int n) {
            int bits = 0;
            for (int colour = 0; colour < COLOURS; colour++) {
                if (numberOf(colour, row, n) > 0) {
                    bits |= 1 << colour;
                }
            }
            return bits;
        }

        static int greatestColour(int row, int n) {
            for (int colour = COLOURS - 1; colour > 0; colour--) {
                if (numberOf(colour, row, n) > 0) {
                    return colour;
                }
            }
            return 0;
        }

        static void tallyInto(int[] tally, int row, int n) {
            for (int colour = 0; colour < COLOURS; colour++) {
                tally[colour] = numberOf(colour, row, n);
            }
        }

        static int mostOfOne(int row, int n) {
            int most = 0;
            for (int colour = 0; colour < COLOURS; colour++) {
                most = Math.max(most, numberOf(colour, row, n));
            }
            return most;
        }

        /** At how many places two rows of as many beads are of another colour. */
        static int apart(int row, int other) {
            int differs = row ^ other;
            return Integer.bitCount((differs | differs >> 1) & LOW_BITS);
        }

        static int wordAt(int row, int n, int bead, int w) {
            return rolled(row, n, bead) >> 2 * (n - w);
        }

        static int placesOf(int row, int n, int word, int w) {
            int places = 0;
            for (int i = 0; i < n; i++) {
                if (wordAt(row, n, i, w) == word) {
                    places |= 1 << i;
                }
            }
            return places;
        }
    }

    /** What undo() brings back: bracelets, stock and purse; each act answers below 0 and changes nothing if refused. */
    private static final class Stall {
        final int[] rows = new int[MOST_BRACELETS];
        final int[] sizes = new int[MOST_BRACELETS];
        final int[] stocked = new int[COLOURS];
        int number;
        int purse;

        void copyFrom(Stall other) {
            System.arraycopy(other.rows, 0, rows, 0, MOST_BRACELETS);
            System.arraycopy(other.sizes, 0, sizes, 0, MOST_BRACELETS);
            System.arraycopy(other.stocked, 0, stocked, 0, COLOURS);
            number = other.number;
            purse = other.purse;
        }

        boolean lacks(int b) {
            return b < 0 || b >= number;
        }

        boolean lacksBead(int b, int bead) {
            return lacks(b) || bead < 0 || bead >= sizes[b];
        }

        boolean hasBeadsFor(int row, int n) {
            for (int colour = 0; colour < COLOURS; colour++) {
                if (Beads.numberOf(colour, row, n) > stocked[colour]) {
                    return false;
                }
            }
            return true;
        }

        void putBack(int colour, int n) {
            stocked[colour] = Math.min(MOST_STOCK, stocked[colour] + n);
        }

        void stockFrom(int kind, int n, int f, int step) {
            for (int colour = 0; colour < COLOURS; colour++) {
                int entry = f + colour * step;
                if (kind == 0) {
                    entry = (byte) entry;
                } else if (kind == 1) {
                    entry = (short) entry;
                }
                stocked[colour] = colour < n ? Math.max(0, Math.min(MOST_STOCK, entry)) : 0;
            }
        }

        int string(int row, int n) {
            if (number >= MOST_BRACELETS) {
                return -100;
            }
            if (!hasBeadsFor(row, n)) {
                return -101;
            }
            for (int colour = 0; colour < COLOURS; colour++) {
                stocked[colour] -= Beads.numberOf(colour, row, n);
            }
            rows[number] = row;
            sizes[number] = n;
            number++;
            return number - 1;
        }

        int roll(int b, int by) {
            if (lacks(b) || by < 0 || by > 99) {
                return NONE;
            }
            rows[b] = Beads.rolled(rows[b], sizes[b], by);
            return Beads.colourAt(rows[b], sizes[b], 0);
        }

        int flip(int b) {
            if (lacks(b)) {
                return NONE;
            }
            rows[b] = Beads.flipped(rows[b], sizes[b]);
            return Beads.colourAt(rows[b], sizes[b], 0);
        }

        int swap(int b, int bead) {
            if (lacksBead(b, bead)) {
                return NONE;
            }
            int n = sizes[b];
            int behind = bead + 1 < n ? bead + 1 : 0;
            int here = Beads.colourAt(rows[b], n, bead);
            int there = Beads.colourAt(rows[b], n, behind);
            if (here == there) {
                return -2;
            }
            rows[b] = Beads.withColour(Beads.withColour(rows[b], n, bead, there), n, behind, here);
            return 10 * there + here;
        }

        int thread(int b, int bead, int colour) {
            if (lacks(b) || bead < 0 || bead > sizes[b] || Beads.isNoColour(colour)) {
                return NONE;
            }
            if (sizes[b] >= MOST_BEADS) {
                return -2;
            }
            if (stocked[colour] == 0) {
                return -3;
            }
            int behind = sizes[b] - bead;
            int ahead = rows[b] >> 2 * behind << 2 | colour;
            rows[b] = ahead << 2 * behind | rows[b] & Beads.mask(behind);
            stocked[colour]--;
            sizes[b]++;
            return sizes[b];
        }

        int cut(int b, int bead) {
            if (lacksBead(b, bead)) {
                return NONE;
            }
            if (sizes[b] == 1) {
                return -2;
            }
            int colour = Beads.colourAt(rows[b], sizes[b], bead);
            int behind = sizes[b] - 1 - bead;
            int ahead = rows[b] >> 2 * (behind + 1);
            rows[b] = ahead << 2 * behind | rows[b] & Beads.mask(behind);
            sizes[b]--;
            putBack(colour, 1);
            return colour;
        }

        int join(int b, int other) {
            if (lacks(b) || lacks(other) || b == other) {
                return NONE;
            }
            int size = sizes[b] + sizes[other];
            if (size > MOST_BEADS) {
                return -2;
            }
            rows[b] = rows[b] << 2 * sizes[other] | rows[other];
            sizes[b] = size;
            drop(other);
            return size;
        }

        int part(int b) {
            if (lacks(b)) {
                return NONE;
            }
            int size = sizes[b];
            for (int colour = 0; colour < COLOURS; colour++) {
                putBack(colour, Beads.numberOf(colour, rows[b], size));
            }
            drop(b);
            return size;
        }

        int sell(int b, Rule rule) {
            if (lacks(b)) {
                return NONE;
            }
            int price = priceOf(b, rule);
            purse = Math.min(MOST_PURSE, purse + price);
            drop(b);
            return price;
        }

        int buy(int colour, int n) {
            if (Beads.isNoColour(colour) || n < 1 || n > 9) {
                return NONE;
            }
            if (purse < n) {
                return -2;
            }
            if (stocked[colour] + n > MOST_STOCK) {
                return -3;
            }
            purse -= n;
            stocked[colour] += n;
            return stocked[colour];
        }

        private void drop(int b) {
            for (int i = b; i + 1 < number; i++) {
                rows[i] = rows[i + 1];
                sizes[i] = sizes[i + 1];
            }
            number--;
        }

        int leastRow(int b) {
            return Beads.leastRow(rows[b], sizes[b]);
        }

        int othersAlike(int b) {
            int leastRow = leastRow(b);
            int others = 0;
            for (int i = 0; i < number; i++) {
                if (i != b && sizes[i] == sizes[b] && leastRow(i) == leastRow) {
                    others++;
                }
            }
            return others;
        }

        int firstAlike(int b) {
            int leastRow = leastRow(b);
            for (int i = 0; i < b; i++) {
                if (sizes[i] == sizes[b] && leastRow(i) == leastRow) {
                    return i;
                }
            }
            return b;
        }

        int kindNumber() {
            int kinds = 0;
            for (int b = 0; b < number; b++) {
                if (firstAlike(b) == b) {
                    kinds++;
                }
            }
            return kinds;
        }

        int priceOf(int b, Rule rule) {
            return rule.price(rows[b], sizes[b], othersAlike(b));
        }

        int pricesOfAll(Rule rule) {
            int prices = 0;
            for (int b = 0; b < number; b++) {
                prices += priceOf(b, rule);
            }
            return prices;
        }

        int beadsOfAll() {
            int beads = 0;
            for (int b = 0; b < number; b++) {
                beads += sizes[b];
            }
            return beads;
        }

        int stockOfAll() {
            int all = 0;
            for (int colour = 0; colour < COLOURS; colour++) {
                all += stocked[colour];
            }
            return all;
        }
    }

    /**
     * A rule, read into steps that a stack works through. A step that is 0 or more is a number; one below 0 is
     * a sign: a trait of the bracelet, NEGATE, or what joins the two numbers on top.
     */
    private static final class Rule {
        private static final char NEGATE = '~';
        private static final int MOST_DEEP = 4;

        private final int[] steps = new int[MOST_RULE_SIGNS];
        private final int[] stack = new int[MOST_RULE_SIGNS];
        private final char[] waiting = new char[MOST_RULE_SIGNS];
        private int stepNumber;
        private int waitingNumber;
        private int depth;
        private int digits;
        private int comparedDepths;
        private int height;
        private boolean wantsThing;

        /** The place of the first sign that can't stand there, or NONE if the text is a rule. */
        int read(Text text) {
            stepNumber = 0;
            waitingNumber = 0;
            depth = 0;
            digits = 0;
            comparedDepths = 0;
            wantsThing = true;
            int n = Math.min(text.size(), MOST_RULE_SIGNS);
            for (int p = 0; p < n; p++) {
                if (!takes(text.signAt(p))) {
                    return p;
                }
            }
            if (text.size() > MOST_RULE_SIGNS) {
                return MOST_RULE_SIGNS;
            }
            if (n > 0 && (wantsThing || depth > 0)) {
                return n;
            }
            settleDownTo(1);
            return NONE;
        }

        private boolean takes(char sign) {
            if (sign >= '0' && sign <= '9') {
                return takesDigit(sign - '0');
            }
            digits = 0;
            return wantsThing ? takesThing(sign) : takesOperator(sign);
        }

        private boolean takesDigit(int digit) {
            if (wantsThing) {
                addStep(digit);
            } else if ((digits == 1 || digits == 2) && stepNumber > 0) {
                steps[stepNumber - 1] = steps[stepNumber - 1] * 10 + digit;
            } else {
                return false;
            }
            digits++;
            wantsThing = false;
            return true;
        }

        private boolean takesThing(char sign) {
            if (sign == '-') {
                addWaiting(NEGATE);
                return true;
            }
            if (sign == '(') {
                if (depth >= MOST_DEEP) {
                    return false;
                }
                depth++;
                comparedDepths &= ~(1 << depth);
                addWaiting(sign);
                return true;
            }
            if (!isTrait(sign)) {
                return false;
            }
            addStep(-sign);
            wantsThing = false;
            return true;
        }

        private boolean takesOperator(char sign) {
            if (sign == ')') {
                if (depth == 0) {
                    return false;
                }
                settleDownTo(1);
                waitingNumber--;
                depth--;
                return true;
            }
            int binding = binding(sign);
            if (binding == 0 || binding == 4) {
                return false;
            }
            if (binding == 1) {
                if ((comparedDepths >> depth & 1) == 1) {
                    return false;
                }
                comparedDepths |= 1 << depth;
            }
            settleDownTo(binding);
            addWaiting(sign);
            wantsThing = true;
            return true;
        }

        /** What waits and binds no less is due ahead of what comes; an open bracket binds 0, so it stays. */
        private void settleDownTo(int binding) {
            for (int i = waitingNumber - 1; i >= 0 && binding(waiting[i]) >= binding; i--) {
                addStep(-waiting[i]);
                waitingNumber--;
            }
        }

        private void addStep(int step) {
            if (stepNumber < MOST_RULE_SIGNS) {
                steps[stepNumber] = step;
                stepNumber++;
            }
        }

        private void addWaiting(char sign) {
            if (waitingNumber < MOST_RULE_SIGNS) {
                waiting[waitingNumber] = sign;
                waitingNumber++;
            }
        }

        private static int binding(char sign) {
            switch (sign) {
                case '<':
                case '>':
                case '=':
                    return 1;
                case '+':
                case '-':
                    return 2;
                case '*':
                case '/':
                    return 3;
                case NEGATE:
                    return 4;
                default:
                    return 0;
            }
        }

        private static boolean isTrait(int sign) {
            return sign == 'n' || sign == 'c' || sign == 't' || sign == 'f' || sign == 'm' || sign == 'd' || sign == 'h';
        }

        int price(int row, int n, int alike) {
            if (stepNumber == 0) {
                return n + 2 * Integer.bitCount(Beads.colourBits(row, n));
            }
            height = 0;
            for (int i = 0; i < stepNumber; i++) {
                int step = steps[i];
                if (step >= 0) {
                    push(step);
                } else if (isTrait(-step)) {
                    push(trait(-step, row, n, alike));
                } else if (step == -NEGATE) {
                    push(-pop());
                } else {
                    int right = pop();
                    push(joined(-step, pop(), right));
                }
            }
            return Math.max(0, Math.min(99, pop()));
        }

        private void push(int number) {
            if (height < MOST_RULE_SIGNS) {
                stack[height] = number;
                height++;
            }
        }

        private int pop() {
            if (height == 0) {
                return 0;
            }
            height--;
            return stack[height];
        }

        private static int trait(int sign, int row, int n, int alike) {
            switch (sign) {
                case 'n':
                    return n;
                case 'c':
                    return Integer.bitCount(Beads.colourBits(row, n));
                case 't':
                    return Beads.period(row, n);
                case 'f':
                    return Beads.mirrors(row, n);
                case 'm':
                    return Beads.mostOfOne(row, n);
                case 'd':
                    return Beads.apart(row, Beads.rolled(row, n, 1));
                default:
                    return alike;
            }
        }

        private static int joined(int sign, int left, int right) {
            switch (sign) {
                case '<':
                    return left < right ? 1 : 0;
                case '>':
                    return left > right ? 1 : 0;
                case '=':
                    return left == right ? 1 : 0;
                case '+':
                    return left + right;
                case '-':
                    return left - right;
                case '*':
                    return left * right;
                default:
                    return right == 0 ? 0 : left / right;
            }
        }
    }

    /** THE TEXT, and the word that was read from it last. */
    private static final class Text {
        private final char[] signs = new char[MOST_SIGNS];
        private int length;
        int word;
        int wordSize;

        int size() {
            return length;
        }

        char signAt(int p) {
            return p >= 0 && p < length ? signs[p] : 0;
        }

        int append(int v) {
            if (length + 4 > MOST_SIGNS) {
                return NONE;
            }
            for (int shift = 24; shift >= 0; shift -= 8) {
                signs[length] = (char) (v >>> shift & 255);
                length++;
            }
            return length;
        }

        boolean shorten(int n) {
            if (n < 0 || n > length) {
                return false;
            }
            length = n;
            return true;
        }

        void empty() {
            length = 0;
        }

        /** Empties the text; 0 if it was a word of beads, else -1 - p for the sign at p that can't stand there. */
        int takeWord() {
            int n = length;
            length = 0;
            word = 0;
            wordSize = n;
            for (int p = 0; p < n && p < MOST_BEADS; p++) {
                int colour = signs[p] - 'a';
                if (Beads.isNoColour(colour)) {
                    return -1 - p;
                }
                word = word << 2 | colour;
            }
            if (n == 0) {
                return -1;
            }
            return n > MOST_BEADS ? -1 - MOST_BEADS : 0;
        }
    }

    /** A day: each act is a letter and signs of a form: d a digit, p a digit above 0, l a letter of a colour. */
    private static final class Day {
        /** The place of the first sign that can't stand there, or NONE if the text is a day. */
        static int fault(Text text) {
            String form = "";
            int at = 0;
            int n = Math.min(text.size(), MOST_DAY_SIGNS);
            for (int p = 0; p < n; p++) {
                char sign = text.signAt(p);
                if (at < form.length()) {
                    if (!suits(sign, form.charAt(at))) {
                        return p;
                    }
                    at++;
                } else {
                    form = form(sign);
                    at = 0;
                    if (form.isEmpty()) {
                        return p;
                    }
                }
            }
            if (text.size() > MOST_DAY_SIGNS) {
                return MOST_DAY_SIGNS;
            }
            return at < form.length() ? n : NONE;
        }

        static String form(char act) {
            switch (act) {
                case 'r':
                case 'x':
                case 'c':
                case 'j':
                    return "dd";
                case 'f':
                case 'u':
                case 's':
                    return "d";
                case 't':
                    return "ddl";
                case 'b':
                    return "lp";
                default:
                    return "";
            }
        }

        private static boolean suits(char sign, char form) {
            if (form == 'l') {
                return sign >= 'a' && sign <= 'd';
            }
            return sign >= (form == 'p' ? '1' : '0') && sign <= '9';
        }

        private static int told(char sign) {
            return sign >= 'a' ? sign - 'a' : sign - '0';
        }

        static int act(Text text, int p, Stall stall, Rule rule) {
            int first = told(text.signAt(p + 1));
            int second = told(text.signAt(p + 2));
            switch (text.signAt(p)) {
                case 'r':
                    return stall.roll(first, second);
                case 'f':
                    return stall.flip(first);
                case 'x':
                    return stall.swap(first, second);
                case 't':
                    return stall.thread(first, second, told(text.signAt(p + 3)));
                case 'c':
                    return stall.cut(first, second);
                case 'j':
                    return stall.join(first, second);
                case 'u':
                    return stall.part(first);
                case 's':
                    return stall.sell(first, rule);
                default:
                    return stall.buy(first, second);
            }
        }
    }

    /** What can be undone and what is kept. One slot more than can be undone is there to mark the stall in. */
    private static final class Past {
        private final Stall[] slots = new Stall[MOST_UNDONE + 1];
        private final Stall[] kept = new Stall[MOST_KEPT];
        private final boolean[] isKept = new boolean[MOST_KEPT];
        private int marked;
        int number;

        Past() {
            for (int i = 0; i <= MOST_UNDONE; i++) {
                slots[i] = new Stall();
            }
            for (int i = 0; i < MOST_KEPT; i++) {
                kept[i] = new Stall();
            }
        }

        /** Ahead of an act; settle() behind it says whether it stays. */
        void mark(Stall stall) {
            slots[marked].copyFrom(stall);
        }

        int settle(int answer) {
            if (answer >= 0) {
                marked = marked < MOST_UNDONE ? marked + 1 : 0;
                number = Math.min(MOST_UNDONE, number + 1);
            }
            return answer;
        }

        int bringBack(Stall stall) {
            if (number == 0) {
                return NONE;
            }
            marked = marked > 0 ? marked - 1 : MOST_UNDONE;
            stall.copyFrom(slots[marked]);
            number--;
            return number;
        }

        boolean keepUnder(int i, Stall stall) {
            if (i < 0 || i >= MOST_KEPT) {
                return false;
            }
            kept[i].copyFrom(stall);
            isKept[i] = true;
            return true;
        }

        boolean takeKept(int i, Stall stall) {
            if (i < 0 || i >= MOST_KEPT || !isKept[i]) {
                return false;
            }
            stall.copyFrom(kept[i]);
            number = 0;
            return true;
        }
    }

    /** THE ROW. */
    private static final class Told {
        final int[] numbers = new int[LONGEST_ROW];
        int size;

        void begin() {
            size = 0;
        }

        void add(int number) {
            if (size < LONGEST_ROW) {
                numbers[size] = number;
                size++;
            }
        }

        void addRow(int row, int n) {
            for (int i = 0; i < n; i++) {
                add(Beads.colourAt(row, n, i));
            }
        }
    }

    /** Least rows of all kinds of 1 to 7 beads, the least first; those of n beads are listed when first asked for. */
    private static final class KindLists {
        private static final int[] STARTS = {0, 0, 4, 14, 34, 89, 225, 655, 1955};

        private final int[] rows = new int[STARTS[LISTED_BEADS + 1]];
        private final boolean[] isListed = new boolean[LISTED_BEADS + 1];
        private int filled;

        static boolean lacks(int n) {
            return n < 1 || n > LISTED_BEADS;
        }

        /** How many kinds of n beads (1 .. 7) there are, listed from now on. */
        int number(int n) {
            if (lacks(n)) {
                return 0;
            }
            if (!isListed[n]) {
                isListed[n] = true;
                filled = STARTS[n];
                for (int colour = 0; colour < COLOURS; colour++) {
                    grow(colour, 1, 1, n);
                }
            }
            return STARTS[n + 1] - STARTS[n];
        }

        int kind(int n, int i) {
            return i >= 0 && i < number(n) ? rows[STARTS[n] + i] : NONE;
        }

        /** A bead less than the one a period ahead would let a roll make a lesser row: none such is grown. */
        private void grow(int start, int size, int period, int n) {
            if (size >= n) {
                if (period > 0 && n % period == 0 && !Beads.isLessFlipped(start, n) && filled < STARTS[n + 1]) {
                    rows[filled] = start;
                    filled++;
                }
                return;
            }
            int same = start >> 2 * (period - 1) & 3;
            for (int colour = same; colour < COLOURS; colour++) {
                grow(start << 2 | colour, size + 1, colour == same ? period : size + 1, n);
            }
        }

        /** The least row of kind m of n beads of the first k colours, or NONE. */
        int kindAt(int n, int k, int m) {
            int ahead = 0;
            for (int i = 0, all = number(n); i < all; i++) {
                int kind = kind(n, i);
                if (Beads.greatestColour(kind, n) < k) {
                    if (ahead == m) {
                        return kind;
                    }
                    ahead++;
                }
            }
            return NONE;
        }

        int kindsAhead(int n, int leastRow) {
            int greatest = Beads.greatestColour(leastRow, n);
            int ahead = 0;
            for (int i = 0, all = number(n); i < all; i++) {
                int kind = kind(n, i);
                if (kind < leastRow && Beads.greatestColour(kind, n) <= greatest) {
                    ahead++;
                }
            }
            return ahead;
        }

        int kindBehind(int n, int leastRow) {
            int greatest = Beads.greatestColour(leastRow, n);
            for (int i = 0, all = number(n); i < all; i++) {
                int kind = kind(n, i);
                if (kind > leastRow && Beads.greatestColour(kind, n) <= greatest) {
                    return kind;
                }
            }
            return NONE;
        }
    }

    /** Counts kinds without listing them: there are as many as turnings keep rows on the average. */
    private static final class Counts {
        private static final int[] FACTORIALS = {1, 1, 2, 6, 24, 120, 720, 5040, 40320, 362880, 3628800};

        static int power(int k, int n) {
            int power = 1;
            for (int i = 0; i < n; i++) {
                power *= k;
            }
            return power;
        }

        /** The greatest divisor of both; of 0 and a number the number. */
        static int commonDivisor(int lesser, int greater) {
            for (int d = lesser; d > 1; d--) {
                if (lesser % d == 0 && greater % d == 0) {
                    return d;
                }
            }
            return lesser == 0 ? greater : 1;
        }

        /** A flip of an odd ring keeps one bead in its place; of an even one two by one half of the turnings. */
        private static int beadsThatStay(int n, int by) {
            if (n % 2 == 1) {
                return 1;
            }
            return by % 2 == 1 ? 2 : 0;
        }

        static int keptByRolls(int n, int k) {
            int kept = 0;
            for (int by = 0; by < n; by++) {
                kept += power(k, commonDivisor(by, n));
            }
            return kept;
        }

        static int keptByFlips(int n, int k) {
            int kept = 0;
            for (int by = 0; by < n; by++) {
                int staying = beadsThatStay(n, by);
                kept += power(k, staying + (n - staying) / 2);
            }
            return kept;
        }

        /** Each row that some roll keeps is a lesser such row, told again and again. */
        private static int rowsThatNoRollKeeps(int n, int k) {
            int rows = power(k, n);
            for (int d = 1; d < n; d++) {
                if (n % d == 0) {
                    rows -= rowsThatNoRollKeeps(d, k);
                }
            }
            return rows;
        }

        static int toldKeptByRolls(int[] tally, int n) {
            int kept = 0;
            for (int by = 0; by < n; by++) {
                kept += rowsOf(tally, n / Math.max(1, commonDivisor(by, n)));
            }
            return kept;
        }

        static int toldKeptByFlips(int[] tally, int n) {
            int kept = 0;
            for (int by = 0; by < n; by++) {
                kept += pairedRows(tally, beadsThatStay(n, by));
            }
            return kept;
        }

        /** In how many rows the beads can lie of which some stay in their place and all others are in pairs. */
        private static int pairedRows(int[] tally, int staying) {
            if (staying <= 0) {
                return rowsOf(tally, 2);
            }
            int rows = 0;
            for (int colour = 0; colour < COLOURS; colour++) {
                if (tally[colour] > 0) {
                    tally[colour]--;
                    rows += pairedRows(tally, staying - 1);
                    tally[colour]++;
                }
            }
            return rows;
        }

        /** In how many rows the beads can lie, if they come in sets of so many of one colour. */
        static int rowsOf(int[] tally, int together) {
            int each = Math.max(1, together);
            int sets = 0;
            int same = 1;
            for (int colour = 0; colour < COLOURS; colour++) {
                if (tally[colour] % each != 0) {
                    return 0;
                }
                sets += tally[colour] / each;
                same *= factorial(tally[colour] / each);
            }
            return factorial(sets) / Math.max(1, same);
        }

        private static int factorial(int n) {
            return n >= 0 && n < FACTORIALS.length ? FACTORIALS[n] : 1;
        }
    }

    /** Pairs that were told: what was felt (place and colour), or what was heard (what and number). */
    private static final class Clues {
        private final int[] firsts;
        private final int[] seconds;
        int size;

        Clues(int most) {
            firsts = new int[Math.max(0, most)];
            seconds = new int[Math.max(0, most)];
        }

        int add(int first, int second) {
            if (size >= firsts.length) {
                return NONE;
            }
            firsts[size] = first;
            seconds[size] = second;
            size++;
            return size;
        }

        int empty() {
            int before = size;
            size = 0;
            return before;
        }

        static boolean canBeFelt(int p, int colour) {
            return p >= 0 && p <= 9 && !Beads.isNoColour(colour);
        }

        /** By which rolls of the row all that was felt is so. */
        int rollsLeft(int row, int n) {
            int left = 0;
            for (int by = 0; by < n; by++) {
                if (isAllFelt(Beads.rolled(row, n, by), n)) {
                    left |= 1 << by;
                }
            }
            return left;
        }

        private boolean isAllFelt(int rolled, int n) {
            for (int i = 0; i < size; i++) {
                if (Beads.colourAt(rolled, n, firsts[i] % Math.max(1, n)) != seconds[i]) {
                    return false;
                }
            }
            return true;
        }

        /** How many of these rolls are left at most, once the bead at p behind the clasp is felt. */
        static int mostLeft(int row, int n, int left, int p) {
            int most = 0;
            for (int colour = 0; colour < COLOURS; colour++) {
                int number = 0;
                for (int by = 0; by < n; by++) {
                    if ((left >> by & 1) == 1 && Beads.colourAt(Beads.rolled(row, n, by), n, p) == colour) {
                        number++;
                    }
                }
                most = Math.max(most, number);
            }
            return most;
        }

        static boolean canBeHeard(int what, int v) {
            if (what == 1) {
                return !Beads.isNoColour(v);
            }
            return what >= 0 && what <= 3 && v >= 1 && v <= 9;
        }

        /** The bracelets that fit all that was heard. */
        int fitting(Stall stall) {
            int left = (1 << stall.number) - 1;
            for (int i = 0; i < size; i++) {
                left &= suiting(stall, firsts[i], seconds[i]);
            }
            return left;
        }

        static int suiting(Stall stall, int what, int v) {
            int bits = 0;
            for (int b = 0; b < stall.number; b++) {
                if (isSo(what, v, stall.rows[b], stall.sizes[b])) {
                    bits |= 1 << b;
                }
            }
            return bits;
        }

        private static boolean isSo(int what, int v, int row, int n) {
            switch (what) {
                case 0:
                    return n >= v;
                case 1:
                    return Beads.numberOf(v, row, n) > 0;
                case 2:
                    return Beads.period(row, n) == v;
                default:
                    return Beads.mostOfOne(row, n) >= v;
            }
        }
    }
}
