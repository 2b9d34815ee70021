import java.util.Arrays;

/** A town of purses, in which of the coins of a price only so many of one sort may lie together. */
public final class UnlikeCoins {
    public static final int NONE = -1, BAD = -2, STATE = -3, FULL = -4;
    public static final long NO = -4611686018427387904L;

    private static final int NO_SUCH = -5, NOT_SO = -7;
    private static final int NOTHING_THERE = -11, OUTSIDE = -12, OTHER_SORT = -13, SIZE_BELOW_0 = -14;

    private static final int SORTS = 6, PURSES = 5, TEXTS = 6, SHEETS = 4;
    private static final int MOST_COINS = 99, LAST_YEAR = 99, MOST_TOLD = 99, MOST_MORE = 9;
    private static final int PRICES = 12, SHEET_SIZE = 40, TAPE_SIZE = 160;
    private static final int MOST_OPEN = 5, MOST_DIGITS = 4, FAULT = -100;
    private static final int LAST_SEED = 99999, MOST_DRAWN = 40, MOST_SEEDS = 20, DRAWN_PRICES = 6;
    private static final long LOT_FACTOR = 48271L, LOT_MODULUS = 2147483647L;

    // What a token is; the first twelve are in the order of WORDS, the next eight in that of SIGNS.
    private static final int WORTH = 0, FEE = 1, WAGE = 2, OR = 3, AND = 4, NOT = 5;
    private static final int TOLD = 6, MANY = 7, MORE = 8, YEAR = 9, NUMBER = 10, PRICE = 11;
    private static final int OPEN = 12, CLOSE = 13, SEMICOLON = 14, PLUS = 15, MINUS = 16, TIMES = 17;
    private static final int LESS = 18, LIKE = 19, DIGITS = 20, END = 21, WRONG = 22, NEGATE = 23;

    private static final int WORD_WIDTH = 6, WORD_COUNT = 12, NAME_COUNT = 6, PARTS = 3;
    private static final String WORDS =
        "worth fee   wage  or    and   not   told  many  more  year  numberprice ";
    private static final String SIGNS = "();+-*<=";
    private static final String FIRST_TEXT = "worth price * 2 ; fee 1 ; wage 1 ;";

    private final Sort[] sorts = new Sort[SORTS];
    private final Purse[] purses = new Purse[PURSES];
    private final Purse[] thoughts = new Purse[PURSES];
    private final Purse thought = new Purse();
    private final Purse trial = new Purse();
    private final Text[] texts = new Text[TEXTS];
    private final Sheet[] sheets = new Sheet[SHEETS];
    private final Reader reader = new Reader();
    private final Image kept = new Image();
    private final int[] names = new int[NAME_COUNT];
    private int sortCount;
    private int purseCount;
    private int textCount;
    private int year;
    private int law;

    public UnlikeCoins() {
        for (int p = 0; p < PURSES; p++) {
            purses[p] = new Purse();
            thoughts[p] = new Purse();
        }
        for (int s = 0; s < SHEETS; s++) {
            sheets[s] = new Sheet();
        }
        for (int i = 0; i < FIRST_TEXT.length(); i++) {
            reader.put(FIRST_TEXT.charAt(i));
        }
        reader.readText();
        texts[0] = reader.textRead();
        textCount = 1;
        reader.clear();
    }

    // ---- the law

    public int count(int what) {
        switch (what) {
            case 0: return sortCount;
            case 1: return purseCount;
            case 2: return year;
            case 3: return textCount;
            case 4: return law;
            case 5: return reader.size();
            default: return BAD;
        }
    }

    public int feed(int n, int a, int b, int c, int d, int e) {
        if (!within(n, 1, 5) || !isByte(a) || !isByte(b) || !isByte(c) || !isByte(d) || !isByte(e)) {
            return BAD;
        }
        if (!reader.hasRoom(n)) {
            return FULL;
        }
        reader.put(a);
        if (n > 1) {
            reader.put(b);
        }
        if (n > 2) {
            reader.put(c);
        }
        if (n > 3) {
            reader.put(d);
        }
        if (n > 4) {
            reader.put(e);
        }
        return reader.size();
    }

    public int text() {
        if (textCount >= TEXTS) {
            return FULL;
        }
        boolean fine = reader.readText();
        reader.clear();
        if (!fine) {
            return FAULT - reader.place();
        }
        texts[textCount] = reader.textRead();
        textCount++;
        return textCount - 1;
    }

    public int force(int t) {
        if (!within(t, 0, textCount - 1)) {
            return BAD;
        }
        int before = law;
        law = t;
        return before;
    }

    public int asks(int part, int toldMore, int many, int numberPrice) {
        if (!within(part, WORTH, WAGE) || !within(toldMore, 0, 999)
                || !within(many, 0, 99) || !within(numberPrice, 0, 999)) {
            return BAD;
        }
        nameAll(toldMore / 10, many, toldMore % 10, numberPrice / 100, numberPrice % 100);
        return says(law, part);
    }

    // ---- sorts, purses

    public int sort(int kind, int told, int more) {
        if (!within(kind, 0, 5) || !within(told, 0, MOST_TOLD) || !within(more, 0, MOST_MORE)) {
            return BAD;
        }
        if (sortCount >= SORTS) {
            return FULL;
        }
        sorts[sortCount] = newSort(kind, told, more);
        sortCount++;
        return sortCount - 1;
    }

    public int told(int s, int what) {
        Sort sort = sortAt(s);
        if (sort == null) {
            return NO_SUCH;
        }
        switch (what) {
            case 0: return sort.kind();
            case 1: return sort.told;
            case 2: return sort.more;
            default: return NOT_SO;
        }
    }

    public int purse() {
        if (purseCount >= PURSES) {
            return FULL;
        }
        purses[purseCount].clear();
        purseCount++;
        return purseCount - 1;
    }

    public int set(int p, int s, int v) {
        Purse purse = purseAt(p);
        if (purse == null || sortAt(s) == null) {
            return NO_SUCH;
        }
        if (!within(v, 0, MOST_COINS)) {
            return NOT_SO;
        }
        int before = purse.many(s);
        purse.put(s, v);
        return before;
    }

    public int of(int p, int s) {
        Purse purse = purseAt(p);
        if (purse == null || sortAt(s) == null) {
            return NO_SUCH;
        }
        return purse.many(s);
    }

    public int all(int p, int what) {
        Purse purse = purseAt(p);
        if (purse == null) {
            return NO_SUCH;
        }
        switch (what) {
            case 0: return purse.coins();
            case 1: return purse.sortBits();
            case 2: return purse.worth(sorts);
            default: return NOT_SO;
        }
    }

    // ---- buying

    public int often(int p, int k, int what) {
        Purse purse = purseAt(p);
        if (purse == null) {
            return NO_SUCH;
        }
        if (!isPrice(k) || !within(what, 0, 2)) {
            return NOT_SO;
        }
        int times = timesAt(purse, k);
        switch (what) {
            case 0: return times;
            case 1: return thought.coins();
            default: return times * worthAt(law, k);
        }
    }

    public int buy(int p, int k) {
        Purse purse = purseAt(p);
        if (purse == null) {
            return NO_SUCH;
        }
        if (!isPrice(k)) {
            return NOT_SO;
        }
        int laid = purse.lay(sorts, k);
        return laid == 0 ? STATE : laid;
    }

    public int two(int p, int j, int k, int what) {
        Purse purse = purseAt(p);
        if (purse == null) {
            return NO_SUCH;
        }
        if (!isPrice(j) || !isPrice(k) || j <= k || !within(what, 0, 1)) {
            return NOT_SO;
        }
        int worthJ = worthAt(law, j);
        int worthK = worthAt(law, k);
        int bestTimes = 0;
        int most = NONE;
        trial.become(purse);
        boolean can = true;
        for (int n = 0; n <= SORTS * MOST_COINS && can; n++) {
            int together = n * worthJ + timesAt(trial, k) * worthK;
            if (together > most) {
                most = together;
                bestTimes = n;
            }
            can = trial.lay(sorts, j) != 0;
        }
        return what == 0 ? bestTimes : most;
    }

    public int price(int what) {
        if (!within(what, 0, 2)) {
            return BAD;
        }
        int best = 0;
        int most = NONE;
        int mostTimes = 0;
        for (int k = 1; k <= PRICES; k++) {
            int times = timesOfAll(k, NONE);
            if (times * k > most) {
                most = times * k;
                mostTimes = times;
                best = k;
            }
        }
        switch (what) {
            case 0: return best;
            case 1: return most;
            default: return mostTimes;
        }
    }

    public int idle(int p, int k) {
        Purse purse = purseAt(p);
        if (purse == null) {
            return NO_SUCH;
        }
        if (!isPrice(k)) {
            return NOT_SO;
        }
        timesAt(purse, k);
        return thought.sortBits();
    }

    public int dearest(int p, int n) {
        Purse purse = purseAt(p);
        if (purse == null) {
            return NO_SUCH;
        }
        if (!within(n, 1, 99)) {
            return NOT_SO;
        }
        for (int k = PRICES; k >= 1; k--) {
            if (timesAt(purse, k) >= n) {
                return k;
            }
        }
        return 0;
    }

    // ---- swaps

    public int swap(int p, int q, int unlike) {
        Purse giver = purseAt(p);
        Purse other = purseAt(q);
        if (giver == null || other == null || p == q) {
            return NO_SUCH;
        }
        int given = unlike / 10;
        int got = unlike % 10;
        if (unlike < 0 || sortAt(given) == null || sortAt(got) == null || given == got) {
            return NOT_SO;
        }
        if (!canSwap(giver, other, given, got)) {
            return STATE;
        }
        giver.lose(given);
        other.grow(given, 1);
        other.lose(got);
        giver.grow(got, 1);
        return feeFor(given, got);
    }

    public int best(int p, int q, int k, int what) {
        Purse giver = purseAt(p);
        Purse other = purseAt(q);
        if (giver == null || other == null || p == q) {
            return NO_SUCH;
        }
        if (!isPrice(k) || !within(what, 0, 1)) {
            return NOT_SO;
        }
        int most = timesAt(giver, k) + timesAt(other, k);
        int best = NONE;
        int bestFee = 0;
        for (int given = 0; given < sortCount; given++) {
            for (int got = 0; got < sortCount; got++) {
                if (given == got || !canSwap(giver, other, given, got)) {
                    continue;
                }
                int times = timesWith(giver, k, got, given) + timesWith(other, k, given, got);
                int fee = feeFor(given, got);
                if (times > most || (best != NONE && times == most && fee < bestFee)) {
                    most = times;
                    bestFee = fee;
                    best = 10 * given + got;
                }
            }
        }
        return what == 0 ? best : most;
    }

    // ---- what is lacking, what hurts, wages

    public int lacks(int k, int what) {
        if (!isPrice(k) || !within(what, 0, 1)) {
            return BAD;
        }
        int lacking = NONE;
        int most = NONE;
        for (int s = 0; s < sortCount; s++) {
            int times = timesOfAll(k, s);
            if (times > most) {
                most = times;
                lacking = s;
            }
        }
        return what == 0 ? lacking : most;
    }

    public int thief(int p, int k, int what) {
        Purse purse = purseAt(p);
        if (purse == null) {
            return NO_SUCH;
        }
        if (!isPrice(k) || !within(what, 0, 1)) {
            return NOT_SO;
        }
        int worst = NONE;
        int least = NONE;
        for (int s = 0; s < sortCount; s++) {
            if (purse.many(s) == 0) {
                continue;
            }
            int times = timesWith(purse, k, NONE, s);
            if (worst == NONE || times < least) {
                least = times;
                worst = s;
            }
        }
        return what == 0 ? worst : least;
    }

    public int rob(int p) {
        Purse purse = purseAt(p);
        if (purse == null) {
            return NO_SUCH;
        }
        int gone = 0;
        for (int s = 0; s < sortCount; s++) {
            if (purse.many(s) == 1) {
                purse.lose(s);
                gone++;
            }
        }
        return gone;
    }

    public int wage(int p, int n, int k, int what) {
        Purse purse = purseAt(p);
        if (purse == null) {
            return NO_SUCH;
        }
        if (!within(n, 0, 4) || !isPrice(k) || !within(what, 0, 1)) {
            return NOT_SO;
        }
        int ways = 1;
        for (int i = 0; i < n; i++) {
            ways *= sortCount;
        }
        int best = NONE;
        int most = NONE;
        for (int way = 0; way < ways; way++) {
            int digits = tryWage(purse, n, way);
            int times = digits < 0 ? NONE : timesAt(trial, k);
            if (times > most) {
                most = times;
                best = digits;
            }
        }
        return what == 0 ? best : most;
    }

    // ---- the mint, years

    public int strike(int s, int n) {
        if (sortAt(s) == null) {
            return NO_SUCH;
        }
        if (!within(n, 0, 20)) {
            return NOT_SO;
        }
        int came = 0;
        for (int p = 0; p < purseCount; p++) {
            came += purses[p].grow(s, n);
        }
        return came;
    }

    public int pass() {
        year = Math.min(LAST_YEAR, year + 1);
        int coins = 0;
        for (int p = 0; p < purseCount; p++) {
            passFor(purses[p]);
            coins += purses[p].coins();
        }
        return coins;
    }

    // ---- what was in a purse

    public int judge(int s, int p) {
        Sheet sheet = sheetAt(s);
        if (sheet == null) {
            return BAD;
        }
        if (sheet.cannotTell()) {
            return sheet.isMissing() ? NOTHING_THERE : BAD;
        }
        Purse purse = purseAt(p);
        return purse == null ? NO_SUCH : firstOther(sheet, purse);
    }

    public int whose(int s) {
        Sheet sheet = sheetAt(s);
        if (sheet == null) {
            return BAD;
        }
        if (sheet.cannotTell()) {
            return sheet.isMissing() ? NOTHING_THERE : BAD;
        }
        int bits = 0;
        for (int p = 0; p < purseCount; p++) {
            if (firstOther(sheet, purses[p]) == NONE) {
                bits |= 1 << p;
            }
        }
        return bits;
    }

    public int was(int s, int what) {
        Sheet sheet = sheetAt(s);
        if (sheet == null) {
            return BAD;
        }
        if (sheet.cannotTell()) {
            return sheet.isMissing() ? NOTHING_THERE : BAD;
        }
        if (!within(what, 0, 1)) {
            return NOT_SO;
        }
        int found = 0;
        int first = NONE;
        int ways = 1 << (2 * sortCount);
        for (int way = 0; way < ways; way++) {
            int digits = tryPurse(way);
            if (firstOther(sheet, trial) == NONE) {
                found++;
                first = first == NONE ? digits : first;
            }
        }
        return what == 0 ? found : first;
    }

    public int film(int s, int p, int n) {
        Sheet sheet = sheetAt(s);
        if (sheet == null) {
            return BAD;
        }
        Purse purse = purseAt(p);
        if (purse == null) {
            return NO_SUCH;
        }
        if (!within(n, 0, PRICES)) {
            return NOT_SO;
        }
        sheet.become(2, n);
        for (int i = 0; i < n; i++) {
            sheet.put(i, timesAt(purse, i + 1));
        }
        return n;
    }

    public int laws(int p, int k, int much) {
        Purse purse = purseAt(p);
        if (purse == null) {
            return NO_SUCH;
        }
        if (!isPrice(k) || !within(much, 0, 99999)) {
            return NOT_SO;
        }
        int times = timesAt(purse, k);
        int bits = 0;
        for (int t = 0; t < textCount; t++) {
            if (times * worthAt(t, k) == much) {
                bits |= 1 << t;
            }
        }
        return bits;
    }

    // ---- markets by lot

    public int drawn(int seed, int n) {
        if (!within(seed, 0, LAST_SEED) || !within(n, 0, MOST_DRAWN)) {
            return BAD;
        }
        return drawnBy(seed, n);
    }

    public long mean(int seed, int seeds, int n, int part) {
        if (!within(seed, 0, LAST_SEED) || !within(seeds, 1, MOST_SEEDS)
                || !within(n, 0, MOST_DRAWN) || !within(part, 0, 1)) {
            return NO;
        }
        int above = 0;
        for (int i = 0; i < seeds; i++) {
            above += drawnBy(seed + i, n);
        }
        int divisor = commonDivisor(above, seeds);
        return part == 0 ? above / divisor : seeds / divisor;
    }

    public int image() {
        for (int p = 0; p < PURSES; p++) {
            kept.purses[p].become(purses[p]);
        }
        kept.sortCount = sortCount;
        kept.purseCount = purseCount;
        kept.year = year;
        kept.law = law;
        kept.isThere = true;
        return purseCount;
    }

    public int back() {
        if (!kept.isThere) {
            return STATE;
        }
        for (int p = 0; p < PURSES; p++) {
            purses[p].become(kept.purses[p]);
        }
        for (int s = kept.sortCount; s < SORTS; s++) {
            sorts[s] = null;
        }
        sortCount = kept.sortCount;
        purseCount = kept.purseCount;
        year = kept.year;
        law = kept.law;
        return purseCount;
    }

    // ---- the host

    public int sheet(int s, int sort, int n) {
        Sheet sheet = sheetAt(s);
        if (sheet == null || !within(sort, NONE, 2)) {
            return BAD;
        }
        if (sort == NONE) {
            sheet.become(NONE, 0);
            return 1;
        }
        if (n > SHEET_SIZE) {
            return BAD;
        }
        if (n < 0) {
            return SIZE_BELOW_0;
        }
        sheet.become(sort, n);
        return 1;
    }

    public int cell(int s, int i, int v) {
        Sheet sheet = sheetAt(s);
        if (sheet == null) {
            return BAD;
        }
        if (sheet.isMissing()) {
            return NOTHING_THERE;
        }
        if (!sheet.holds(i, 1)) {
            return OUTSIDE;
        }
        sheet.put(i, v);
        return 1;
    }

    public int copy(int s, int i, int other, int j, int n) {
        Sheet from = sheetAt(s);
        Sheet to = sheetAt(other);
        if (from == null || to == null) {
            return BAD;
        }
        if (from.isMissing() || to.isMissing()) {
            return NOTHING_THERE;
        }
        if (from.form != to.form) {
            return OTHER_SORT;
        }
        if (!from.holds(i, n) || !to.holds(j, n)) {
            return OUTSIDE;
        }
        System.arraycopy(from.row, i, to.row, j, n);
        return n;
    }

    public int coinsBy(int s, int sort, int at, int n) {
        Sheet sheet = sheetAt(s);
        if (sheet == null || !within(sort, 0, 2) || !within(n, 0, 10)) {
            return BAD;
        }
        if (sheet.isMissing()) {
            return NOTHING_THERE;
        }
        if (sheet.form != sort) {
            return OTHER_SORT;
        }
        int done = 0;
        int place = at;
        for (int i = 0; i < n; i++) {
            if (!sheet.holds(place, 3)) {
                return OUTSIDE;
            }
            if (set(sheet.get(place), sheet.get(place + 1), sheet.get(place + 2)) >= 0) {
                done++;
            }
            place += 3;
        }
        return done;
    }

    public int taken(int i, int kind) {
        if (!within(kind, 0, 6)) {
            return BAD;
        }
        if (!within(i, 0, PURSES + SORTS - 1)) {
            return OUTSIDE;
        }
        if (i < PURSES) {
            Purse purse = purseAt(i);
            if (purse == null || purse.coins() == 0) {
                return NOTHING_THERE;
            }
            return kind == 6 ? purse.coins() : OTHER_SORT;
        }
        Sort sort = sortAt(i - PURSES);
        if (sort == null) {
            return NOTHING_THERE;
        }
        return isOfKind(sort, kind) ? i - PURSES : OTHER_SORT;
    }

    // ---- within

    private static boolean within(int v, int least, int most) {
        return v >= least && v <= most;
    }

    private static boolean isByte(int v) {
        return within(v, 0, 255);
    }

    private static boolean isPrice(int k) {
        return within(k, 1, PRICES);
    }

    private Sort sortAt(int s) {
        return within(s, 0, sortCount - 1) ? sorts[s] : null;
    }

    private Purse purseAt(int p) {
        return within(p, 0, purseCount - 1) ? purses[p] : null;
    }

    private Sheet sheetAt(int s) {
        return within(s, 0, SHEETS - 1) ? sheets[s] : null;
    }

    private static Sort newSort(int kind, int told, int more) {
        switch (kind) {
            case 1: return new Common(told, more);
            case 2: return new Scarce(told, more);
            case 3: return new Stamped(told, more);
            case 4: return new Gilt(told, more);
            case 5: return new Melting(told, more);
            default: return new Sort(told, more);
        }
    }

    private static boolean isOfKind(Sort sort, int kind) {
        switch (kind) {
            case 0: return true;
            case 1: return sort instanceof Common;
            case 2: return sort instanceof Scarce;
            case 3: return sort instanceof Stamped;
            case 4: return sort instanceof Gilt;
            case 5: return sort instanceof Melting;
            default: return false;
        }
    }

    private void nameAll(int told, int many, int more, int number, int price) {
        names[TOLD - TOLD] = told;
        names[MANY - TOLD] = many;
        names[MORE - TOLD] = more;
        names[YEAR - TOLD] = year;
        names[NUMBER - TOLD] = number;
        names[PRICE - TOLD] = price;
    }

    private int says(int t, int part) {
        Text text = within(t, 0, textCount - 1) ? texts[t] : null;
        return text == null ? 0 : text.value(part, names);
    }

    private int worthAt(int t, int k) {
        nameAll(0, 0, 0, 0, k);
        return says(t, WORTH);
    }

    private int feeFor(int given, int got) {
        Sort from = sortAt(given);
        Sort to = sortAt(got);
        if (from == null || to == null) {
            return 0;
        }
        nameAll(from.told, 0, to.more, given, 0);
        return says(law, FEE);
    }

    /** OFTEN of a purse; what is left behind it is then in the purse that is thought of. */
    private int timesAt(Purse purse, int k) {
        thought.become(purse);
        int times = 0;
        while (times < SORTS * MOST_COINS && thought.lay(sorts, k) != 0) {
            times++;
        }
        return times;
    }

    /** OFTEN, had the purse one more of a sort and one less of another (the first may be NONE). */
    private int timesWith(Purse purse, int k, int gained, int lost) {
        trial.become(purse);
        trial.grow(gained, 1);
        trial.lose(lost);
        return timesAt(trial, k);
    }

    /** OFTEN of all purses together, had each one more of a sort (it may be NONE). */
    private int timesOfAll(int k, int gained) {
        int times = 0;
        for (int p = 0; p < purseCount; p++) {
            trial.become(purses[p]);
            trial.grow(gained, 1);
            times += timesAt(trial, k);
        }
        return times;
    }

    private static boolean canSwap(Purse giver, Purse other, int given, int got) {
        return giver.many(given) > 0 && other.many(got) > 0
            && other.many(given) < MOST_COINS && giver.many(got) < MOST_COINS;
    }

    /**
     * The trial purse becomes one with n coins more, told by the digits of a way: as digits,
     * or NONE, if there is no room, or the same coins come by an earlier way.
     */
    private int tryWage(Purse purse, int n, int way) {
        trial.become(purse);
        int rest = way;
        int behind = SORTS;
        int unit = 1;
        int digits = 0;
        for (int i = 0; i < n; i++) {
            int s = sortCount > 0 ? rest % sortCount : NONE;
            if (s > behind || trial.grow(s, 1) == 0) {
                return NONE;
            }
            digits += unit * (s + 1);
            unit *= 10;
            behind = s;
            rest /= Math.max(1, sortCount);
        }
        return digits;
    }

    /** The trial purse becomes that of a way: how many of each sort, as digits. */
    private int tryPurse(int way) {
        int digits = 0;
        trial.clear();
        for (int s = 0; s < sortCount; s++) {
            int many = (way >> (2 * (sortCount - 1 - s))) & 3;
            trial.put(s, many);
            digits = 10 * digits + many;
        }
        return digits;
    }

    private void passFor(Purse purse) {
        for (int s = 0; s < sortCount; s++) {
            Sort sort = sortAt(s);
            if (sort != null) {
                int left = sort.leftOf(purse.many(s));
                nameAll(sort.told, left, sort.more, s, 0);
                purse.put(s, left);
                purse.grow(s, says(law, WAGE));
            }
        }
    }

    private int firstOther(Sheet sheet, Purse purse) {
        for (int i = 0; i < sheet.size; i++) {
            if (sheet.get(i) != timesAt(purse, i + 1)) {
                return i + 1;
            }
        }
        return NONE;
    }

    private static long lotBehind(long lot) {
        return lot * LOT_FACTOR % LOT_MODULUS;
    }

    private int drawnBy(int seed, int n) {
        if (purseCount < 1) {
            return 0;
        }
        for (int p = 0; p < purseCount; p++) {
            thoughts[p].become(purses[p]);
        }
        long lot = seed + 1L;
        int could = 0;
        for (int i = 0; i < n; i++) {
            lot = lotBehind(lot);
            int p = (int) (lot % purseCount);
            lot = lotBehind(lot);
            int k = 1 + (int) (lot % DRAWN_PRICES);
            if (within(p, 0, PURSES - 1) && thoughts[p].lay(sorts, k) != 0) {
                could++;
            }
        }
        return could;
    }

    private static int commonDivisor(int above, int below) {
        for (int d = below; d > 1; d--) {
            if (above % d == 0 && below % d == 0) {
                return d;
            }
        }
        return 1;
    }

    // ---- the kinds of sorts

    private static class Sort {
        final int told;
        final int more;

        Sort(int told, int more) {
            this.told = told;
            this.more = more;
        }

        int kind() {
            return 0;
        }

        int together(int many) {
            return 1;
        }

        int leftOf(int many) {
            return many;
        }

        int worthOf(int many) {
            return told;
        }
    }

    private static class Common extends Sort {
        Common(int told, int more) {
            super(told, more);
        }

        int kind() {
            return 1;
        }

        int together(int many) {
            return super.together(many) + 1;
        }
    }

    private static class Scarce extends Sort {
        Scarce(int told, int more) {
            super(told, more);
        }

        int kind() {
            return 2;
        }

        int worthOf(int many) {
            return many < 2 ? 3 * super.worthOf(many) : super.worthOf(many);
        }
    }

    private static final class Stamped extends Common {
        Stamped(int told, int more) {
            super(told, more);
        }

        int kind() {
            return 3;
        }

        int together(int many) {
            return many > more ? super.together(many) + 1 : super.together(many);
        }
    }

    private static final class Gilt extends Scarce {
        Gilt(int told, int more) {
            super(told, more);
        }

        int kind() {
            return 4;
        }

        int leftOf(int many) {
            return Math.max(0, super.leftOf(many) - 1);
        }

        int worthOf(int many) {
            return super.worthOf(many) + more;
        }
    }

    private static final class Melting extends Sort {
        Melting(int told, int more) {
            super(told, more);
        }

        int kind() {
            return 5;
        }

        int together(int many) {
            return many > 5 ? 0 : super.together(many);
        }

        int leftOf(int many) {
            return super.leftOf(many) * (9 - more) / 9;
        }
    }

    // ---- what holds coins, numbers, texts

    private static final class Purse {
        private final int[] has = new int[SORTS];
        private final int[] left = new int[SORTS];
        private final int[] room = new int[SORTS];

        int many(int s) {
            return within(s, 0, SORTS - 1) ? has[s] : 0;
        }

        void put(int s, int many) {
            if (within(s, 0, SORTS - 1)) {
                has[s] = many;
            }
        }

        /** How many came: no more than there is room for, and none of no sort. */
        int grow(int s, int n) {
            if (!within(s, 0, SORTS - 1)) {
                return 0;
            }
            int came = Math.min(n, MOST_COINS - has[s]);
            has[s] += came;
            return came;
        }

        void lose(int s) {
            if (within(s, 0, SORTS - 1) && has[s] > 0) {
                has[s]--;
            }
        }

        void become(Purse other) {
            System.arraycopy(other.has, 0, has, 0, SORTS);
        }

        void clear() {
            Arrays.fill(has, 0);
        }

        int coins() {
            int coins = 0;
            for (int s = 0; s < SORTS; s++) {
                coins += has[s];
            }
            return coins;
        }

        int sortBits() {
            int bits = 0;
            for (int s = 0; s < SORTS; s++) {
                if (has[s] > 0) {
                    bits |= 1 << s;
                }
            }
            return bits;
        }

        int worth(Sort[] sorts) {
            int worth = 0;
            for (int s = 0; s < SORTS && s < sorts.length; s++) {
                Sort sort = sorts[s];
                if (sort != null) {
                    worth += has[s] * sort.worthOf(has[s]);
                }
            }
            return worth;
        }

        /** Lays k coins: the sorts (bits) of those; 0: they can't be laid, and none is. */
        int lay(Sort[] sorts, int k) {
            for (int s = 0; s < SORTS && s < sorts.length; s++) {
                Sort sort = sorts[s];
                left[s] = has[s];
                room[s] = sort == null ? 0 : sort.together(has[s]);
            }
            int laid = 0;
            for (int i = 0; i < k; i++) {
                int s = mostPlentiful();
                if (s < 0) {
                    return 0;
                }
                left[s]--;
                room[s]--;
                laid |= 1 << s;
            }
            System.arraycopy(left, 0, has, 0, SORTS);
            return laid;
        }

        private int mostPlentiful() {
            int best = NONE;
            int most = 0;
            for (int s = 0; s < SORTS; s++) {
                if (room[s] > 0 && left[s] > most) {
                    most = left[s];
                    best = s;
                }
            }
            return best;
        }
    }

    private static final class Image {
        final Purse[] purses = new Purse[PURSES];
        int sortCount;
        int purseCount;
        int year;
        int law;
        boolean isThere;

        Image() {
            for (int p = 0; p < PURSES; p++) {
                purses[p] = new Purse();
            }
        }
    }

    private static final class Sheet {
        final int[] row = new int[SHEET_SIZE];
        int form = NONE;
        int size;

        boolean isMissing() {
            return form == NONE;
        }

        /** A sheet that tells OFTEN has no more numbers than there are prices. */
        boolean cannotTell() {
            return isMissing() || size > PRICES;
        }

        boolean holds(int i, int n) {
            return i >= 0 && n >= 0 && n <= size && i <= size - n;
        }

        void become(int newForm, int newSize) {
            form = newForm;
            size = newSize;
            Arrays.fill(row, 0);
        }

        int get(int i) {
            return holds(i, 1) ? row[i] : 0;
        }

        void put(int i, int v) {
            if (holds(i, 1)) {
                row[i] = form == 0 ? (byte) v : form == 1 ? (short) v : v;
            }
        }
    }

    /** A text that was read: its three parts in an order in which what is reckoned with stands ahead. */
    private static final class Text {
        // 6 levels (5 of them in brackets) with 5 numbers waiting in each, and the last one: 31.
        private static final int STACK_SIZE = 32;

        private final int[] code;
        private final int[] ends;
        private final int[] stack = new int[STACK_SIZE];
        private int height;

        Text(int[] code, int[] ends) {
            this.code = code;
            this.ends = ends;
        }

        int value(int part, int[] names) {
            if (!within(part, 0, PARTS - 1) || ends.length < PARTS) {
                return 0;
            }
            height = 0;
            int from = part == 0 ? 0 : ends[part - 1];
            for (int i = Math.max(0, from); i < ends[part] && i < code.length; i++) {
                step(code[i], names);
            }
            return Math.max(0, Math.min(part == WAGE ? 9 : 99, pop()));
        }

        private void step(int number, int[] names) {
            int token = -1 - number;
            if (number >= 0) {
                push(number);
            } else if (within(token, TOLD, PRICE)) {
                push(token - TOLD < names.length ? names[token - TOLD] : 0);
            } else if (token == NOT) {
                push(pop() == 0 ? 1 : 0);
            } else if (token == NEGATE) {
                push(-pop());
            } else {
                int right = pop();
                int left = pop();
                push(reckon(token, left, right));
            }
        }

        private static int reckon(int token, int left, int right) {
            switch (token) {
                case OR: return left != 0 || right != 0 ? 1 : 0;
                case AND: return left != 0 && right != 0 ? 1 : 0;
                case PLUS: return left + right;
                case MINUS: return left - right;
                case TIMES: return left * right;
                case LESS: return left < right ? 1 : 0;
                case LIKE: return left == right ? 1 : 0;
                default: return 0;
            }
        }

        private void push(int v) {
            if (height < STACK_SIZE) {
                stack[height] = v;
                height++;
            }
        }

        private int pop() {
            if (height < 1) {
                return 0;
            }
            height--;
            return stack[height];
        }
    }

    /** THE TAPE, and what is read from it, token by token. */
    private static final class Reader {
        private final int[] tape = new int[TAPE_SIZE];
        private final int[] code = new int[TAPE_SIZE];
        private final int[] ends = new int[PARTS];
        private int size;
        private int start;
        private int end;
        private int token;
        private int number;
        private int open;
        private int length;

        int size() {
            return size;
        }

        boolean hasRoom(int n) {
            return size + n <= TAPE_SIZE;
        }

        void put(int b) {
            if (size < TAPE_SIZE) {
                tape[size] = b;
                size++;
            }
        }

        void clear() {
            size = 0;
        }

        /** Where the token stands that was read last: behind a reading that failed, its fault. */
        int place() {
            return start;
        }

        Text textRead() {
            return new Text(Arrays.copyOf(code, length), Arrays.copyOf(ends, PARTS));
        }

        /** Whether the tape is a text; each of the readings below stops at the first token that can't stand there. */
        boolean readText() {
            end = 0;
            open = 0;
            length = 0;
            advance();
            for (int part = 0; part < PARTS; part++) {
                if (!readToken(WORTH + part) || !readEither() || !readToken(SEMICOLON)) {
                    return false;
                }
                ends[part] = length;
            }
            return token == END;
        }

        private boolean readToken(int wanted) {
            if (token != wanted) {
                return false;
            }
            advance();
            return true;
        }

        private boolean readEither() {
            if (!readBoth()) {
                return false;
            }
            for (int i = 0; i < TAPE_SIZE && token == OR; i++) {
                advance();
                if (!readBoth()) {
                    return false;
                }
                emit(-1 - OR);
            }
            return true;
        }

        private boolean readBoth() {
            if (!readDenied()) {
                return false;
            }
            for (int i = 0; i < TAPE_SIZE && token == AND; i++) {
                advance();
                if (!readDenied()) {
                    return false;
                }
                emit(-1 - AND);
            }
            return true;
        }

        private boolean readDenied() {
            if (token != NOT) {
                return readCompared();
            }
            if (open >= MOST_OPEN) {
                return false;
            }
            open++;
            advance();
            boolean fine = readDenied();
            open--;
            emit(-1 - NOT);
            return fine;
        }

        private boolean readCompared() {
            if (!readSum()) {
                return false;
            }
            int sign = token;
            if (sign != LESS && sign != LIKE) {
                return true;
            }
            advance();
            boolean fine = readSum();
            emit(-1 - sign);
            return fine;
        }

        private boolean readSum() {
            if (!readTerm()) {
                return false;
            }
            for (int i = 0; i < TAPE_SIZE && (token == PLUS || token == MINUS); i++) {
                int sign = token;
                advance();
                if (!readTerm()) {
                    return false;
                }
                emit(-1 - sign);
            }
            return true;
        }

        private boolean readTerm() {
            if (!readOne()) {
                return false;
            }
            for (int i = 0; i < TAPE_SIZE && token == TIMES; i++) {
                advance();
                if (!readOne()) {
                    return false;
                }
                emit(-1 - TIMES);
            }
            return true;
        }

        private boolean readOne() {
            if (token == DIGITS || within(token, TOLD, PRICE)) {
                emit(token == DIGITS ? number : -1 - token);
                advance();
                return true;
            }
            if ((token != OPEN && token != MINUS) || open >= MOST_OPEN) {
                return false;
            }
            boolean bracket = token == OPEN;
            open++;
            advance();
            boolean fine = bracket ? readEither() && readToken(CLOSE) : readOne();
            open--;
            if (!bracket) {
                emit(-1 - NEGATE);
            }
            return fine;
        }

        private void emit(int v) {
            if (length < TAPE_SIZE) {
                code[length] = v;
                length++;
            }
        }

        private void advance() {
            while (end < size && isBlank(tape[end])) {
                end++;
            }
            start = end;
            if (start >= size) {
                token = END;
            } else if (isLetter(tape[start])) {
                readWord();
            } else if (isDigit(tape[start])) {
                readNumber();
            } else {
                int sign = SIGNS.indexOf((char) tape[start]);
                token = sign < 0 ? WRONG : OPEN + sign;
                end++;
            }
        }

        private void readWord() {
            while (end < size && isLetter(tape[end])) {
                end++;
            }
            token = WRONG;
            for (int w = 0; w < WORD_COUNT; w++) {
                if (isWord(w)) {
                    token = w;
                }
            }
        }

        private boolean isWord(int w) {
            if (end - start > WORD_WIDTH) {
                return false;
            }
            for (int i = 0; i < WORD_WIDTH; i++) {
                int b = start + i < end ? tape[start + i] : ' ';
                if (b != WORDS.charAt(w * WORD_WIDTH + i)) {
                    return false;
                }
            }
            return true;
        }

        private void readNumber() {
            number = 0;
            while (end < size && isDigit(tape[end])) {
                number = 10 * number + tape[end] - '0';
                end++;
            }
            token = end - start > MOST_DIGITS ? WRONG : DIGITS;
        }

        private static boolean isBlank(int b) {
            return b == 32 || b == 10;
        }

        private static boolean isLetter(int b) {
            return within(b, 'a', 'z');
        }

        private static boolean isDigit(int b) {
            return within(b, '0', '9');
        }
    }
}
