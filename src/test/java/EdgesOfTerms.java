/** The boundaries that "Terms" name: numbers, kinds, laying, lots, images, sheets, refusals. */
final class EdgesOfTerms {
    private static final String NO_WAGE = "worth price ; fee 1 ; wage 0 ;";
    /** Six sorts of which two may lie together, and a purse with two of each: twelve coins. */
    static final String TWELVE = "sort(1, 1, 0) sort(1, 1, 0) sort(1, 1, 0) sort(1, 1, 0) sort(1, 1, 0) "
        + "sort(1, 1, 0) purse() set(0, 0, 2) set(0, 1, 2) set(0, 2, 2) set(0, 3, 2) set(0, 4, 2) set(0, 5, 2) ";

    private final Edges e;

    EdgesOfTerms(Edges e) {
        this.e = e;
    }

    void run() {
        calls();
        sorts();
        purses();
        years();
        prices();
        kinds();
        plain();
        common();
        scarce();
        stamped();
        gilt();
        melting();
        kindAbove();
        laying();
        often();
        drawn();
        lots();
        images();
        sheets();
        refusals();
    }

    private void calls() {
        e.terms(1, "An object is used for at most 512 calls after it has been made; what later calls answer is free.");
        UnlikeCoins x = new UnlikeCoins();
        x.sort(0, 1, 0);
        x.purse();
        for (int i = 0; i < 508; i++) {
            e.due("call " + (i + 3), x.set(0, 0, i % 100), i == 0 ? 0 : (i - 1) % 100);
        }
        e.due("the 511th call", x.of(0, 0), 7);
        e.due("the 512th call", x.often(0, 1, 0), 7);
    }

    private void sorts() {
        e.terms(7, "SORTS are numbered from 0 on, 6 at most");
        for (int s = 0; s < 6; s++) {
            e.is("told(" + s + ", 0)", -5);
            e.is("sort(0, 1, 1)", s);
            e.is("told(" + s + ", 0)", 0);
            e.is("count(0)", s + 1);
        }
        e.is("sort(0, 1, 1)", -4);
        e.is("count(0)", 6);
        e.is("told(-1, 0)", -5);
        e.is("told(6, 0)", -5);
        e.terms(7, "of a KIND, with TOLD (0 .. 99), MORE (0 .. 9)");
        e.range("sort($, 50, 5)", 0, 5, -2, 0, 0, 0, 0);
        e.range("sort(0, $, 5)", 0, 99, -2, 0, 0, 0, 0);
        e.range("sort(0, 50, $)", 0, 9, -2, 0, 0, 0, 0);
        e.then("sort(0, 0, 0) sort(5, 99, 9) sort(1, 1, 1) sort(4, 98, 8)");
        int[][] told = {{0, 0, 0}, {5, 99, 9}, {1, 1, 1}, {4, 98, 8}};
        for (int s = 0; s < told.length; s++) {
            for (int what = 0; what < 3; what++) {
                e.is("told(" + s + ", " + what + ")", told[s][what]);
            }
        }
    }

    private void purses() {
        e.terms(9, "PURSES are numbered from 0 on, 5 at most");
        for (int p = 0; p < 5; p++) {
            e.is("all(" + p + ", 0)", -5);
            e.is("purse()", p);
            e.is("all(" + p + ", 0)", 0);
            e.is("count(1)", p + 1);
        }
        e.is("purse()", -4);
        e.is("count(1)", 5);
        e.is("all(-1, 0)", -5);
        e.is("all(5, 0)", -5);
        e.terms(10, "each has so many COINS (0 .. 99) of each SORT");
        e.town("sort(0, 1, 1) sort(0, 1, 1) purse() purse() set(0, 0, 50)");
        e.range("set(0, 0, $)", 0, 99, -7, 50, 50, 50, 50);
        e.range("set(1, 1, $)", 0, 99, -7, 0, 0, 0, 0);
        for (int v : new int[] {99, 98, 1, 0}) {
            e.then("set(0, 0, " + v + ")");
            e.is("of(0, 0)", v);
            e.has(v + " 0, 0 0");
        }
    }

    private void years() {
        e.terms(26, "THE YEAR (0 .. 99; 0 at first)");
        e.is("count(2)", 0);
        e.then("pass()");
        e.is("count(2)", 1);
        e.then("pass()", 97);
        e.is("count(2)", 98);
        e.then("pass()");
        e.is("count(2)", 99);
        e.then("pass()");
        e.is("count(2)", 99);
        e.then("pass()");
        e.is("count(2)", 99);
    }

    private void prices() {
        e.terms(13, "PRICES 1 .. 12");
        e.town(TWELVE);
        e.range("often(0, $, 0)", 1, 12, -7, 12, 6, 1, 1);
        e.range("often(0, $, 1)", 1, 12, -7, 0, 0, 1, 0);
        e.range("often(0, $, 2)", 1, 12, -7, 24, 24, 22, 24);
        e.terms(14, "PRICES 1 .. 12");
        e.town(TWELVE);
        e.range("buy(0, $)", 1, 12, -7, 1, 3, 63, 63);
        e.terms(15, "PRICES 1 .. 12");
        e.town(TWELVE);
        e.range("two(0, $, 1, 1)", 2, 12, -7, 24, 24, 24, 24);
        e.range("two(0, 12, $, 1)", 1, 11, -7, 24, 24, 24, 24);
        e.is("two(0, 13, 12, 0)", -7);
        e.is("two(0, 1, 0, 0)", -7);
        e.terms(17, "PRICES 1 .. 12");
        e.town(TWELVE);
        e.range("idle(0, $)", 1, 12, -7, 0, 0, 32, 0);
        e.terms(20, "PRICES 1 .. 12");
        e.town(TWELVE + "purse()");
        e.range("best(0, 1, $, 1)", 1, 12, -7, 12, 6, 1, 1);
        e.terms(21, "PRICES 1 .. 12");
        e.town(TWELVE);
        e.range("lacks($, 1)", 1, 12, -2, 13, 6, 1, 1);
        e.terms(22, "PRICES 1 .. 12");
        e.town(TWELVE);
        e.range("thief(0, $, 1)", 1, 12, -7, 11, 5, 1, 0);
        e.terms(24, "PRICES 1 .. 12");
        e.town(TWELVE);
        e.range("wage(0, 1, $, 1)", 1, 12, -7, 13, 6, 1, 1);
        e.terms(31, "PRICES 1 .. 12");
        e.town(TWELVE);
        e.range("laws(0, $, 24)", 1, 12, -7, 1, 1, 0, 1);
        e.terms(16, "PRICES 1 .. 12");
        e.town("sort(1, 1, 0) purse() set(0, 0, 1)");
        e.is("price(0)", 1);
        e.law("worth price ; fee 1 ; wage 1 ;");
        e.is("price(1)", 1);
        e.terms(18, "PRICES 1 .. 12");
        e.town(TWELVE);
        e.is("dearest(0, 1)", 12);
        e.is("dearest(0, 12)", 1);
        e.then("set(0, 5, 1)");
        e.is("dearest(0, 1)", 11);
    }

    // ---- kinds

    /** One purse with so many of one sort, TOLD 10; no wage comes. */
    private void one(int kind, int more, int many) {
        e.town("sort(" + kind + ", 10, " + more + ") purse() set(0, 0, " + many + ")");
        e.law(NO_WAGE);
    }

    /** How often a price can be laid by a sort of which a purse has so many. */
    private void lies(int kind, int more, int many, int price, int often) {
        one(kind, more, many);
        e.is("often(0, " + price + ", 0)", often);
    }

    private void isLeft(int kind, int more, int many, int left) {
        one(kind, more, many);
        e.is("pass()", left);
        e.has(String.valueOf(left));
    }

    private void isWorth(int kind, int more, int many, int worth) {
        one(kind, more, many);
        e.is("all(0, 2)", worth);
    }

    private void kinds() {
        e.terms(12, "KINDS: how many of a SORT may lie TOGETHER, the purse having many of it; "
            + "how many of many are left behind a YEAR; what one is WORTH, the purse having many.");
        e.town("sort(3, 10, 2) sort(2, 10, 0) sort(4, 10, 5) purse() purse() set(0, 0, 2) set(1, 0, 3) set(0, 1, 1) set(1, 1, 2)");
        e.law(NO_WAGE);
        e.is("often(0, 4, 0)", 0);
        e.is("often(1, 4, 0)", 1);
        e.is("all(0, 2)", 50);
        e.is("all(1, 2)", 50);
        e.then("set(0, 2, 1) set(1, 2, 0)");
        e.is("all(0, 2)", 85);
        e.is("all(1, 2)", 50);
        e.is("pass()", 8);
        e.has("2 1 0, 3 2 0");
    }

    private void plain() {
        e.terms(13, "0 SORT: 1; many; TOLD.");
        lies(0, 9, 0, 1, 0);
        lies(0, 9, 1, 1, 1);
        lies(0, 9, 99, 1, 99);
        lies(0, 9, 1, 2, 0);
        lies(0, 9, 2, 2, 0);
        lies(0, 9, 99, 2, 0);
        e.terms(26, "0 SORT: 1; many; TOLD.");
        for (int many : new int[] {0, 1, 2, 98, 99}) {
            isLeft(0, 9, many, many);
        }
        e.terms(12, "0 SORT: 1; many; TOLD.");
        for (int many : new int[] {0, 1, 2, 3, 99}) {
            isWorth(0, 9, many, 10 * many);
        }
    }

    private void common() {
        e.terms(13, "1 COMMON (a SORT): 1 more may lie TOGETHER.");
        lies(1, 9, 1, 1, 1);
        lies(1, 9, 1, 2, 0);
        lies(1, 9, 2, 2, 1);
        lies(1, 9, 3, 2, 1);
        lies(1, 9, 99, 2, 49);
        lies(1, 9, 3, 3, 0);
        lies(1, 9, 99, 3, 0);
    }

    private void scarce() {
        e.terms(12, "2 SCARCE (a SORT): WORTH 3 times as much, if many is below 2.");
        isWorth(2, 9, 0, 0);
        isWorth(2, 9, 1, 30);
        isWorth(2, 9, 2, 20);
        isWorth(2, 9, 3, 30);
        isWorth(2, 9, 99, 990);
        e.town("sort(2, 99, 0) sort(2, 0, 0) sort(2, 1, 9) purse() set(0, 0, 1) set(0, 1, 1)");
        e.is("all(0, 2)", 297);
        e.then("set(0, 2, 1)");
        e.is("all(0, 2)", 300);
        e.then("set(0, 2, 2)");
        e.is("all(0, 2)", 299);
    }

    private void stamped() {
        e.terms(13, "3 STAMPED (a COMMON): 1 more, if many is above MORE.");
        lies(3, 4, 3, 3, 0);
        lies(3, 4, 4, 3, 0);
        lies(3, 4, 5, 3, 1);
        lies(3, 4, 6, 3, 1);
        lies(3, 4, 7, 3, 1);
        lies(3, 4, 8, 3, 2);
        lies(3, 4, 99, 4, 0);
        lies(3, 4, 4, 2, 2);
        lies(3, 0, 2, 3, 0);
        lies(3, 0, 3, 3, 1);
        lies(3, 0, 1, 2, 0);
        lies(3, 9, 9, 3, 0);
        lies(3, 9, 10, 3, 1);
        lies(3, 9, 12, 3, 1);
        lies(3, 9, 13, 3, 2);
    }

    private void gilt() {
        e.terms(12, "4 GILT (a SCARCE): WORTH MORE more; 1 less is left (0 at least).");
        isWorth(4, 9, 0, 0);
        isWorth(4, 9, 1, 39);
        isWorth(4, 9, 2, 38);
        isWorth(4, 9, 3, 57);
        isWorth(4, 0, 1, 30);
        isWorth(4, 0, 2, 20);
        isWorth(4, 1, 1, 31);
        isWorth(4, 1, 2, 22);
        e.town("sort(4, 0, 9) sort(4, 99, 9) purse() set(0, 0, 1)");
        e.is("all(0, 2)", 9);
        e.then("set(0, 1, 1)");
        e.is("all(0, 2)", 9 + 306);
        e.then("set(0, 1, 99)");
        e.is("all(0, 2)", 9 + 10692);
        e.terms(26, "4 GILT (a SCARCE): WORTH MORE more; 1 less is left (0 at least).");
        isLeft(4, 9, 0, 0);
        isLeft(4, 9, 1, 0);
        isLeft(4, 9, 2, 1);
        isLeft(4, 9, 3, 2);
        isLeft(4, 0, 99, 98);
    }

    private void melting() {
        e.terms(26, "5 MELTING (a SORT): many times (9 less MORE) by 9 (cut) are left");
        isLeft(5, 0, 0, 0);
        isLeft(5, 0, 1, 1);
        isLeft(5, 0, 99, 99);
        isLeft(5, 9, 1, 0);
        isLeft(5, 9, 99, 0);
        isLeft(5, 8, 8, 0);
        isLeft(5, 8, 9, 1);
        isLeft(5, 8, 17, 1);
        isLeft(5, 8, 18, 2);
        isLeft(5, 8, 99, 11);
        isLeft(5, 1, 1, 0);
        isLeft(5, 1, 2, 1);
        isLeft(5, 1, 99, 88);
        isLeft(5, 4, 1, 0);
        isLeft(5, 4, 2, 1);
        isLeft(5, 4, 8, 4);
        isLeft(5, 4, 9, 5);
        isLeft(5, 4, 10, 5);
        e.terms(13, "none may lie TOGETHER, if many is above 5.");
        lies(5, 9, 4, 1, 4);
        lies(5, 9, 5, 1, 5);
        lies(5, 9, 6, 1, 0);
        lies(5, 9, 7, 1, 0);
        lies(5, 0, 99, 1, 0);
        lies(5, 0, 5, 2, 0);
        one(5, 0, 6);
        e.is("often(0, 1, 1)", 6);
        e.is("buy(0, 1)", -3);
        e.then("set(0, 0, 5)");
        e.is("buy(0, 1)", 1);
    }

    private void kindAbove() {
        e.terms(13, "(Whatever isn't told is as of the KIND above.)");
        lies(2, 0, 2, 2, 0);
        lies(2, 0, 2, 1, 2);
        lies(4, 0, 2, 2, 0);
        lies(4, 0, 2, 1, 2);
        lies(3, 9, 2, 2, 1);
        isLeft(1, 9, 7, 7);
        isLeft(2, 9, 1, 1);
        isLeft(3, 9, 99, 99);
        isWorth(1, 9, 1, 10);
        isWorth(3, 9, 1, 10);
        isWorth(3, 0, 99, 990);
        isWorth(5, 9, 1, 10);
        isWorth(5, 9, 6, 60);
    }

    // ---- laying, often

    private void laying() {
        e.terms(14, "LAYING k COINS out of a purse: one by one, each of a SORT of which any are left");
        e.town("sort(0, 1, 0) sort(1, 1, 0) purse()");
        e.is("buy(0, 1)", -3);
        e.then("set(0, 1, 1)");
        e.is("buy(0, 2)", -3);
        e.is("buy(0, 1)", 2);
        e.is("buy(0, 1)", -3);
        e.then("set(0, 1, 2)");
        e.is("buy(0, 2)", 2);
        e.terms(14, "of which fewer lie there yet than may lie TOGETHER");
        e.town("sort(0, 1, 0) sort(1, 1, 0) sort(3, 1, 0) purse() set(0, 0, 9) set(0, 1, 9) set(0, 2, 9)");
        e.is("buy(0, 7)", -3);
        e.is("buy(0, 6)", 7);
        e.has("8 7 6");
        e.is("buy(0, 5)", 7);
        e.has("7 5 4");
        e.terms(14, "(many: how many the purse had of it as LAYING began)");
        e.town("sort(3, 1, 4) sort(5, 1, 0) purse() set(0, 0, 4)");
        e.is("buy(0, 3)", -3);
        e.then("set(0, 0, 5)");
        e.is("buy(0, 3)", 1);
        e.has("2 0");
        e.then("set(0, 0, 6)");
        e.is("buy(0, 3)", 1);
        e.then("set(0, 0, 1) set(0, 1, 6)");
        e.is("buy(0, 2)", -3);
        e.then("set(0, 1, 5)");
        e.is("buy(0, 2)", 3);
        e.terms(14, "of that of which most are left, of like ones the first");
        e.town("sort(0, 1, 0) sort(0, 1, 0) sort(0, 1, 0) purse() set(0, 0, 2) set(0, 1, 1) set(0, 2, 2)");
        e.is("buy(0, 1)", 1);
        e.is("buy(0, 1)", 4);
        e.is("buy(0, 1)", 1);
        e.has("0 1 1");
        e.is("buy(0, 1)", 2);
        e.then("set(0, 0, 1) set(0, 1, 2) set(0, 2, 2)");
        e.is("buy(0, 2)", 6);
        e.then("set(0, 1, 99) set(0, 2, 98)");
        e.is("buy(0, 1)", 2);
        e.is("buy(0, 1)", 2);
        e.is("buy(0, 1)", 4);
        e.terms(14, "if there is none for any of the k, none is laid");
        e.town("sort(0, 1, 0) sort(0, 1, 0) purse() set(0, 0, 5) set(0, 1, 5)");
        e.is("buy(0, 3)", -3);
        e.is("buy(0, 12)", -3);
        e.has("5 5");
        e.is("buy(0, 2)", 3);
        e.has("4 4");
    }

    private void often() {
        e.terms(13, "OFTEN at a PRICE: how many times, one behind the other, so many COINS can be laid.");
        e.town("sort(0, 1, 0) sort(1, 1, 0) purse()");
        e.is("often(0, 1, 0)", 0);
        e.then("set(0, 0, 1)");
        e.is("often(0, 1, 0)", 1);
        e.is("often(0, 2, 0)", 0);
        e.then("set(0, 1, 1)");
        e.is("often(0, 2, 0)", 1);
        e.is("often(0, 3, 0)", 0);
        e.then("set(0, 1, 2)");
        e.is("often(0, 3, 0)", 1);
        e.then("set(0, 1, 99) set(0, 0, 99)");
        e.is("often(0, 1, 0)", 198);
        e.is("often(0, 2, 0)", 99);
        e.is("often(0, 3, 0)", 49);
        e.is("often(0, 4, 0)", 0);
        e.town("sort(0, 1, 0) sort(0, 1, 0) sort(0, 1, 0) sort(0, 1, 0) sort(0, 1, 0) sort(0, 1, 0) purse() "
            + "set(0, 0, 99) set(0, 1, 99) set(0, 2, 99) set(0, 3, 99) set(0, 4, 99) set(0, 5, 98)");
        e.is("often(0, 1, 0)", 593);
        e.is("often(0, 6, 0)", 98);
        e.then("set(0, 5, 99)");
        e.is("often(0, 1, 0)", 594);
        e.is("often(0, 6, 0)", 99);
        e.is("often(0, 7, 0)", 0);
    }

    // ---- markets by lot

    /** Six sorts, and one coin each of the first of them: a price can be laid, if it is no more than that. */
    private void coinsOfUnlikeSorts(int n) {
        e.town("sort(0, 1, 0) sort(0, 1, 0) sort(0, 1, 0) sort(0, 1, 0) sort(0, 1, 0) sort(0, 1, 0) purse()");
        for (int s = 0; s < n; s++) {
            e.then("set(0, " + s + ", 1)");
        }
    }

    private void price(int seed, int price) {
        if (price > 1) {
            coinsOfUnlikeSorts(price - 1);
            e.is("drawn(" + seed + ", 1)", 0);
        }
        coinsOfUnlikeSorts(price);
        e.is("drawn(" + seed + ", 1)", 1);
    }

    private void drawn() {
        e.terms(32, "DRAWN by a SEED (0 .. 99999), n (0 .. 40), in thought");
        e.town("sort(3, 1, 0) sort(3, 1, 0) purse() set(0, 0, 99) set(0, 1, 99)");
        e.range("drawn($, 1)", 0, 99999, -2, 1, 1, 1, 1);
        e.range("drawn(2, $)", 0, 40, -2, 0, 1, 39, 40);
        e.has("99 99");
        e.terms(32, "a purse (LOT modulo how many there are)");
        int[][] whose = {{0, 1, 1, 3, 1}, {0, 0, 2, 2, 2}};
        for (int purses = 1; purses <= 5; purses++) {
            for (int p = 0; p < purses; p++) {
                e.town("sort(0, 1, 0)");
                e.then("purse()", purses);
                e.then("set(" + p + ", 0, 1)");
                e.is("drawn(0, 1)", p == whose[0][purses - 1] ? 1 : 0);
                e.is("drawn(1, 1)", p == whose[1][purses - 1] ? 1 : 0);
            }
        }
        e.terms(32, "a PRICE (1 and LOT modulo 6)");
        price(10, 1);
        price(11, 6);
        price(46, 4);
        price(47, 3);
        price(58, 2);
        e.terms(32, "this purse LAYS as many, if it can (they are gone then).");
        e.town("sort(1, 1, 0) purse() set(0, 0, 2)");
        e.is("drawn(0, 1)", 1);
        e.is("drawn(0, 2)", 1);
        e.then("set(0, 0, 3)");
        e.is("drawn(0, 2)", 2);
        e.has("3");
        e.town("sort(0, 1, 0) sort(0, 1, 0) purse() set(0, 0, 2) set(0, 1, 1)");
        e.is("drawn(0, 2)", 2);
        e.then("set(0, 1, 0)");
        e.is("drawn(0, 2)", 1);
    }

    /** (44487 and 1) times 48271 is the last that is below 2147483647. */
    private void lots() {
        e.terms(32, "LOTS: the first is (SEED and 1) times 48271 modulo 2147483647, "
            + "each further one the last times 48271 modulo 2147483647.");
        price(0, 1);
        price(44486, 5);
        price(44487, 5);
        price(44488, 4);
        price(88976, 2);
        price(88977, 1);
        price(99998, 6);
        price(99999, 6);
        int[] seeds = {44486, 44487, 44488, 99998, 99999};
        int[] whose = {2, 3, 2, 0, 1};
        for (int i = 0; i < seeds.length; i++) {
            for (int p = 0; p < 5; p++) {
                e.town("sort(3, 1, 0) sort(3, 1, 0) purse() purse() purse() purse() purse()");
                e.then("set(" + p + ", 0, 9) set(" + p + ", 1, 9)");
                e.is("drawn(" + seeds[i] + ", 1)", p == whose[i] ? 1 : 0);
            }
        }
    }

    // ---- images, sheets, refusals

    private void images() {
        e.terms(35, "AN IMAGE keeps what PURSES have, THE YEAR, how many PURSES and SORTS there are, THE LAW.");
        e.then("image() sort(0, 1, 0) purse() set(0, 0, 9) pass()");
        e.is("back()", 0);
        e.is("count(0)", 0);
        e.is("count(1)", 0);
        e.is("count(2)", 0);
        e.town("sort(0, 1, 0) sort(0, 1, 0) purse() purse() set(0, 0, 99) set(1, 1, 1) pass()");
        e.tape("worth 7;fee 1;wage 1;");
        e.then("text() force(1) image() set(0, 0, 0) set(0, 1, 99) set(1, 1, 0) pass() force(0) sort(5, 1, 0) purse()");
        e.is("back()", 2);
        e.has("99 1, 1 2");
        e.is("count(0)", 2);
        e.is("count(1)", 2);
        e.is("count(2)", 1);
        e.is("count(4)", 1);
        e.town("sheet(0, 2, 1) cell(0, 0, 5) image() cell(0, 0, 6) sheet(1, 0, 2)");
        e.tape("worth");
        e.is("back()", 0);
        e.numbers(0, "6");
        e.numbers(1, "0 0");
        e.is("count(5)", 5);
    }

    private void sheets() {
        e.terms(36, "SHEETS 0 .. 3 are rows of numbers, or missing (as all are at first)");
        e.range("cell($, 0, 0)", 0, 3, -2, -11, -11, -11, -11);
        e.range("whose($)", 0, 3, -2, -11, -11, -11, -11);
        e.range("sheet($, 2, 1)", 0, 3, -2, 1, 1, 1, 1);
        e.range("sheet($, -1, 1)", 0, 3, -2, 1, 1, 1, 1);
        e.then("sheet(0, 0, 1) sheet(3, 0, 1)");
        e.range("cell($, 0, 0)", 0, 3, -2, 1, -11, -11, 1);
        e.range("copy($, 0, 0, 0, 1)", 0, 3, -2, 1, -11, -11, 1);
        e.range("copy(0, 0, $, 0, 1)", 0, 3, -2, 1, -11, -11, 1);
        e.range("coinsBy($, 0, 0, 1)", 0, 3, -2, -12, -11, -11, -12);
        e.then("purse()");
        e.range("film($, 0, 1)", 0, 3, -2, 1, 1, 1, 1);
        e.range("judge($, 0)", 0, 3, -2, -1, -11, -11, -1);
        e.range("was($, 0)", 0, 3, -2, 1, -11, -11, 1);
        e.terms(36, "of sort 0 bytes, 1 shorts, 2 ints, 40 at most.");
        e.range("sheet(1, $, 40)", -1, 2, -2, 1, 1, 1, 1);
        for (int sort = 0; sort < 3; sort++) {
            e.sides("sheet(1, " + sort + ", $)", 0, 40, -14, -2, 1, 1, 1, 1);
            e.town("sheet(1, " + sort + ", 40)");
            e.range("cell(1, $, 1)", 0, 39, -12, 1, 1, 1, 1);
            e.then("sheet(1, " + sort + ", 39)");
            e.range("cell(1, $, 1)", 0, 38, -12, 1, 1, 1, 1);
            e.is("coinsBy(1, " + sort + ", 0, 0)", 0);
            e.is("coinsBy(1, " + (sort + 1) % 3 + ", 0, 0)", -13);
        }
    }

    private void refusals() {
        e.terms(2, "NONE there is no such thing; BAD a number is not as told; STATE as told; FULL.");
        e.due("NONE", UnlikeCoins.NONE, -1);
        e.due("BAD", UnlikeCoins.BAD, -2);
        e.due("STATE", UnlikeCoins.STATE, -3);
        e.due("FULL", UnlikeCoins.FULL, -4);
        e.due("NO", UnlikeCoins.NO, -4611686018427387904L);
        e.is("count(6)", UnlikeCoins.BAD);
        e.is("back()", UnlikeCoins.STATE);
        e.is("mean(0, 0, 0, 0)", UnlikeCoins.NO);
        e.is("lacks(1, 0)", UnlikeCoins.NONE);
        e.then("purse()", 5);
        e.is("purse()", UnlikeCoins.FULL);
        e.terms(38, "The host's: -11 nothing there, -12 a place outside, -13 of another sort or KIND, -14 a size below 0.");
        e.then("sheet(0, 0, 1) sheet(1, 1, 1) sort(1, 0, 0)");
        e.is("copy(0, 0, 2, 0, 1)", -11);
        e.is("copy(0, 0, 0, 1, 1)", -12);
        e.is("copy(0, 0, 1, 0, 1)", -13);
        e.is("sheet(0, 0, -1)", -14);
        e.is("taken(5, 2)", -13);
        e.terms(22, "of several the first one told (a -1 that is an answer comes behind the refusal of a number)");
        e.then("purse()");
        e.is("thief(1, 13, 2)", -5);
        e.is("thief(0, 13, 0)", -7);
        e.is("thief(0, 1, 2)", -7);
        e.is("thief(0, 1, 1)", -1);
        e.is("lacks(0, 0)", -2);
        e.is("lacks(1, 2)", -2);
        e.is("lacks(1, 1)", -1);
        e.is("wage(0, 1, 1, 2)", -7);
        e.is("wage(0, 1, 1, 0)", -1);
        e.then("purse()");
        e.is("best(0, 1, 1, 2)", -7);
        e.is("best(0, 1, 1, 0)", -1);
        e.then("sheet(0, 0, 1) cell(0, 0, 1)");
        e.is("was(0, 2)", -7);
        e.is("was(0, 1)", -1);
        e.then("cell(0, 0, 0)");
        e.is("judge(0, 2)", -5);
        e.is("judge(0, 1)", -1);
        e.terms(4, "They change nothing, but where it is told.");
        e.tape("worth");
        e.is("text()", -105);
        e.is("count(5)", 0);
        e.town("sort(0, 1, 0) purse() sheet(0, 2, 4) cell(0, 2, 7)");
        e.is("coinsBy(0, 2, 0, 2)", -12);
        e.has("7");
        e.is("set(0, 0, 100)", -7);
        e.is("buy(0, 13)", -7);
        e.is("film(0, 0, 13)", -7);
        e.is("sheet(0, 2, 41)", -2);
        e.numbers(0, "0 0 7 0");
        e.terms(13, "What is asked changes nothing, but where it is told.");
        e.town("sort(0, 1, 0) purse() set(0, 0, 7) sheet(0, 2, 4) cell(0, 2, 7)");
        e.is("often(0, 1, 0)", 7);
        e.is("two(0, 2, 1, 1)", 14);
        e.is("price(1)", 7);
        e.is("drawn(0, 1)", 1);
        e.is("was(0, 0)", 0);
        e.has("7");
    }
}
