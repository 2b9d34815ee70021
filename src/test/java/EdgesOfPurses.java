/** The boundaries that promises 1 and 7 to 18 name: sorts, purses, buying. */
final class EdgesOfPurses {
    private static final String SIX_PLAIN = "sort(0, 1, 0) sort(0, 1, 0) sort(0, 1, 0) sort(0, 1, 0) sort(0, 1, 0) sort(0, 1, 0) ";

    private final Edges e;

    EdgesOfPurses(Edges e) {
        this.e = e;
    }

    void run() {
        nothing();
        sort();
        told();
        purse();
        set();
        of();
        all();
        often();
        buy();
        two();
        twoOfLikeOnes();
        price();
        idle();
        dearest();
    }

    private void nothing() {
        e.promise(1, "No SORTS, no PURSES.");
        e.is("count(0)", 0);
        e.is("count(1)", 0);
        e.is("told(0, 0)", -5);
        e.is("of(0, 0)", -5);
        e.is("set(0, 0, 0)", -5);
        e.is("all(0, 0)", -5);
        e.is("often(0, 1, 0)", -5);
        e.is("whose(0)", -11);
        e.is("taken(0, 6)", -11);
        e.is("taken(5, 0)", -11);
        e.is("back()", -3);
        e.is("purse()", 0);
        e.is("sort(0, 0, 0)", 0);
    }

    private void sort() {
        e.promise(7, "A SORT (KIND, TOLD, MORE), of which nobody has any: its number.");
        e.town("purse() purse()");
        e.is("sort(0, 0, 0)", 0);
        e.has("0, 0");
        e.then("set(0, 0, 99) set(1, 0, 98)");
        e.is("sort(5, 99, 9)", 1);
        e.has("99 0, 98 0");
        e.then("image() sort(0, 0, 0) set(0, 2, 99) back()");
        e.is("sort(1, 0, 0)", 2);
        e.has("99 0 0, 98 0 0");
        e.is("told(2, 0)", 1);
        e.promise(7, "BAD; FULL.");
        e.range("sort($, 0, 0)", 0, 5, -2, 0, 0, 0, 0);
        e.range("sort(5, $, 9)", 0, 99, -2, 0, 0, 0, 0);
        e.range("sort(5, 99, $)", 0, 9, -2, 0, 0, 0, 0);
        e.then("sort(0, 0, 0)", 5);
        e.range("sort($, 0, 0)", 0, 5, -2, 5, 5, 5, 5);
        e.then("sort(0, 0, 0)");
        e.range("sort($, 0, 0)", 0, 5, -2, -4, -4, -4, -4);
        e.range("sort(0, $, 0)", 0, 99, -2, -4, -4, -4, -4);
        e.range("sort(0, 0, $)", 0, 9, -2, -4, -4, -4, -4);
    }

    private void told() {
        e.promise(8, "Of a SORT what 0 KIND, 1 TOLD, 2 MORE.");
        e.town("sort(3, 98, 7) sort(5, 99, 9) sort(0, 0, 0)");
        e.range("told(0, $)", 0, 2, -7, 3, 98, 7);
        e.range("told(1, $)", 0, 2, -7, 5, 99, 9);
        e.range("told(2, $)", 0, 2, -7, 0, 0, 0);
        for (int kind = 0; kind <= 5; kind++) {
            e.town("sort(" + kind + ", 50, 5)");
            e.range("told(0, $)", 0, 2, -7, kind, 50, 5);
        }
        e.promise(8, "-5: no such SORT; -7: what.");
        e.is("told(0, 0)", -5);
        e.then("sort(4, 1, 2)");
        e.range("told($, 0)", 0, 0, -5, 4);
        e.is("told(1, 3)", -5);
        e.is("told(-1, -1)", -5);
        e.is("told(0, 3)", -7);
        e.is("told(0, -1)", -7);
        e.then("sort(5, 1, 2)");
        e.range("told($, 0)", 0, 1, -5, 4, 5);
    }

    private void purse() {
        e.promise(9, "One more PURSE, empty: its number. FULL.");
        e.town("sort(0, 1, 0)");
        for (int p = 0; p < 5; p++) {
            e.is("purse()", p);
            e.is("all(" + p + ", 0)", 0);
            e.then("set(" + p + ", 0, 99)");
        }
        e.is("purse()", -4);
        e.has("99, 99, 99, 99, 99");
        e.town("sort(0, 1, 0) image() purse() set(0, 0, 99) back()");
        e.is("purse()", 0);
        e.has("0");
        e.town("sort(0, 1, 0) purse() image() purse() set(1, 0, 7) image() set(1, 0, 8) back()");
        e.is("purse()", 2);
        e.has("0, 7, 0");
    }

    private void set() {
        e.promise(10, "A PURSE has v of a SORT: how many it had.");
        e.town("sort(0, 1, 0) sort(0, 1, 0) purse() purse()");
        e.is("set(1, 0, 99)", 0);
        e.is("set(1, 0, 0)", 99);
        e.is("set(1, 0, 1)", 0);
        e.is("set(1, 0, 98)", 1);
        e.is("set(1, 0, 98)", 98);
        e.has("0 0, 98 0");
        e.promise(10, "-5: no such PURSE, SORT; -7: v.");
        e.town("sort(0, 1, 0) sort(0, 1, 0) purse() set(0, 0, 5)");
        e.range("set($, 0, 7)", 0, 0, -5, 5);
        e.range("set(0, $, 7)", 0, 1, -5, 5, 0);
        e.range("set(0, 0, $)", 0, 99, -7, 5, 5, 5, 5);
        e.is("set(1, 2, 100)", -5);
        e.is("set(1, 0, 100)", -5);
        e.is("set(0, 2, -1)", -5);
        e.is("set(0, 0, -1)", -7);
        e.then("purse()");
        e.range("set($, 1, 7)", 0, 1, -5, 0, 0);
        e.has("5 0, 0 0");
    }

    private void of() {
        e.promise(11, "-5: no such PURSE, SORT.");
        e.town("sort(0, 1, 0) purse() set(0, 0, 99)");
        e.range("of($, 0)", 0, 0, -5, 99);
        e.range("of(0, $)", 0, 0, -5, 99);
        e.is("of(1, 1)", -5);
        e.then("purse() sort(0, 1, 0) set(1, 1, 3)");
        e.range("of($, 0)", 0, 1, -5, 99, 0);
        e.range("of(1, $)", 0, 1, -5, 0, 3);
    }

    private void all() {
        e.promise(12, "Of a PURSE what 0 how many COINS, 1 SORTS (bits) of which it has any, 2 what all are WORTH together.");
        e.town("sort(4, 99, 9) sort(4, 99, 9) sort(4, 99, 9) sort(4, 99, 9) sort(4, 99, 9) sort(4, 99, 9) purse()");
        e.range("all(0, $)", 0, 2, -7, 0, 0, 0);
        for (int s = 0; s < 6; s++) {
            e.then("set(0, " + s + ", 1)");
            e.range("all(0, $)", 0, 2, -7, s + 1, (2 << s) - 1, 306L * (s + 1));
        }
        e.then("set(0, 0, 99) set(0, 1, 99) set(0, 2, 99) set(0, 3, 99) set(0, 4, 99) set(0, 5, 99)");
        e.range("all(0, $)", 0, 2, -7, 594, 63, 64152);
        e.then("set(0, 3, 0)");
        e.range("all(0, $)", 0, 2, -7, 495, 55, 53460);
        e.promise(12, "-5: no such PURSE; -7: what.");
        e.is("all(0, 0)", -5);
        e.is("all(0, 3)", -5);
        e.then("purse()");
        e.range("all($, 0)", 0, 0, -5, 0);
        e.is("all(1, 3)", -5);
        e.is("all(0, 3)", -7);
        e.range("all(0, $)", 0, 2, -7, 0, 0, 0);
    }

    // ---- buying

    private void often() {
        e.promise(13, "At a PRICE what 0 OFTEN, 1 how many COINS are left behind it, 2 OFTEN times worth.");
        e.town("sort(0, 1, 0) sort(0, 1, 0) purse()");
        e.range("often(0, 2, $)", 0, 2, -7, 0, 0, 0);
        e.then("set(0, 0, 1)");
        e.range("often(0, 2, $)", 0, 2, -7, 0, 1, 0);
        e.then("set(0, 1, 1)");
        e.range("often(0, 2, $)", 0, 2, -7, 1, 0, 4);
        e.then("set(0, 1, 2)");
        e.range("often(0, 2, $)", 0, 2, -7, 1, 1, 4);
        e.has("1 2");
        e.town(SIX_PLAIN + "purse() set(0, 0, 99) set(0, 1, 99) set(0, 2, 99) set(0, 3, 99) set(0, 4, 99) set(0, 5, 99)");
        e.law("worth 99;fee 1;wage 1;");
        e.range("often(0, 1, $)", 0, 2, -7, 594, 0, 58806);
        e.range("often(0, 7, $)", 0, 2, -7, 0, 594, 0);
        e.law("worth 0;fee 1;wage 1;");
        e.range("often(0, 1, $)", 0, 2, -7, 594, 0, 0);
        e.promise(13, "-5: no such PURSE; -7: PRICE, what.");
        e.is("often(0, 1, 0)", -5);
        e.then("purse()");
        e.range("often($, 1, 0)", 0, 0, -5, 0);
        e.range("often(0, $, 0)", 1, 12, -7, 0, 0, 0, 0);
        e.range("often(0, 1, $)", 0, 2, -7, 0, 0, 0);
        e.is("often(1, 0, 3)", -5);
        e.is("often(0, 0, 3)", -7);
    }

    private void buy() {
        e.promise(14, "A PURSE truly LAYS as many as a PRICE: SORTS (bits) of those.");
        e.town(SIX_PLAIN + "purse() set(0, 0, 1) set(0, 1, 2) set(0, 2, 3) set(0, 3, 4) set(0, 4, 5) set(0, 5, 6)");
        int[] bits = {-7, 32, 48, 56, 60, 62, 63, -3, -3, -3, -3, -3, -3, -7};
        for (int k = 0; k < bits.length; k++) {
            e.apart("buy(0, " + k + ")", bits[k]);
        }
        e.is("buy(0, 1)", 32);
        e.has("1 2 3 4 5 5");
        e.is("buy(0, 6)", 63);
        e.has("0 1 2 3 4 4");
        e.is("buy(0, 6)", -3);
        e.is("buy(0, 5)", 62);
        e.has("0 0 1 2 3 3");
        e.promise(14, "-5: no such PURSE; -7: PRICE; STATE: it can't.");
        e.is("buy(0, 1)", -5);
        e.then("purse() sort(1, 1, 0)");
        e.is("buy(0, 1)", -3);
        e.is("buy(0, 0)", -7);
        e.is("buy(0, 13)", -7);
        e.is("buy(1, 13)", -5);
        e.is("buy(-1, 1)", -5);
        e.then("set(0, 0, 1)");
        e.is("buy(0, 2)", -3);
        e.range("buy($, 1)", 0, 0, -5, 1);
        e.apart("buy(0, 1)", 1);
        e.then("set(0, 0, 2)");
        e.is("buy(0, 3)", -3);
        e.is("buy(0, 2)", 1);
        e.is("buy(0, 1)", -3);
    }

    /** One purse of so many coins of a COMMON; price 1 is worth 4, price 2 so much. */
    private void pairs(int many, int worthOfTwo) {
        e.town("sort(1, 1, 0) purse() set(0, 0, " + many + ")");
        e.law("worth (price=1)*4+(price=2)*" + worthOfTwo + ";fee 1;wage 1;");
    }

    private void two() {
        e.promise(15, "n times a PRICE j, which is greater than another one, k, then at k OFTEN");
        e.town("sort(1, 1, 0) purse() set(0, 0, 5)");
        e.is("two(0, 1, 2, 0)", -7);
        e.is("two(0, 2, 2, 0)", -7);
        e.is("two(0, 2, 1, 0)", 0);
        e.is("two(0, 3, 1, 0)", 0);
        e.is("two(0, 12, 12, 0)", -7);
        e.is("two(0, 11, 12, 0)", -7);
        e.is("two(0, 12, 11, 0)", 0);
        e.promise(15, "the n (as far as that can be) by which n times worth of j, and as many times worth of k, are most together");
        int[] many = {0, 1, 2, 3, 4, 5, 98, 99};
        for (int m : many) {
            pairs(m, 9);
            e.is("two(0, 2, 1, 0)", m / 2);
            e.is("two(0, 2, 1, 1)", m / 2 * 9 + m % 2 * 4);
        }
        pairs(99, 99);
        e.is("two(0, 2, 1, 1)", 49 * 99 + 4);
        e.town("sort(0, 1, 0) sort(0, 1, 0) purse() set(0, 0, 3) set(0, 1, 1)");
        e.law("worth (price=1)*2+(price=2)*9;fee 1;wage 1;");
        e.is("two(0, 2, 1, 0)", 1);
        e.is("two(0, 2, 1, 1)", 13);
        e.town(SIX_PLAIN + "purse() set(0, 0, 99) set(0, 1, 99) set(0, 2, 99) set(0, 3, 99) set(0, 4, 99) set(0, 5, 99)");
        e.law("worth (price=1)+(price=2)*9;fee 1;wage 1;");
        e.is("two(0, 2, 1, 0)", 297);
        e.is("two(0, 2, 1, 1)", 2673);
        e.promise(15, "-5: no such PURSE; -7: PRICES, what.");
        e.is("two(0, 2, 1, 0)", -5);
        e.then("purse()");
        e.range("two($, 2, 1, 0)", 0, 0, -5, 0);
        e.range("two(0, $, 1, 0)", 2, 12, -7, 0, 0, 0, 0);
        e.range("two(0, 12, $, 0)", 1, 11, -7, 0, 0, 0, 0);
        e.range("two(0, 2, 1, $)", 0, 1, -7, 0, 0);
        e.is("two(1, 0, 0, 2)", -5);
        e.is("two(0, 13, 1, 0)", -7);
        e.is("two(0, 13, 13, 0)", -7);
        e.is("two(0, 1, 0, 0)", -7);
    }

    private void twoOfLikeOnes() {
        e.promise(15, "of like ones the least (what 0), that (1).");
        pairs(5, 7);
        e.is("two(0, 2, 1, 0)", 0);
        e.is("two(0, 2, 1, 1)", 20);
        pairs(5, 8);
        e.is("two(0, 2, 1, 0)", 0);
        e.is("two(0, 2, 1, 1)", 20);
        pairs(5, 9);
        e.is("two(0, 2, 1, 0)", 2);
        e.is("two(0, 2, 1, 1)", 22);
        pairs(0, 9);
        e.is("two(0, 2, 1, 0)", 0);
        e.is("two(0, 2, 1, 1)", 0);
        e.town("sort(1, 1, 0) purse() set(0, 0, 5)");
        e.law("worth 0;fee 1;wage 1;");
        e.is("two(0, 2, 1, 0)", 0);
        e.is("two(0, 2, 1, 1)", 0);
        e.town("sort(1, 1, 0) sort(0, 1, 0) purse() set(0, 0, 4) set(0, 1, 1)");
        e.law("worth (price=3)*5+(price=2)*5;fee 1;wage 1;");
        e.is("two(0, 3, 2, 0)", 0);
        e.is("two(0, 3, 2, 1)", 10);
    }

    private void price() {
        e.promise(16, "Of PRICES that by which OFTEN of all PURSES together, times the PRICE, is most, of like ones the least (what 0), "
            + "that product (1), OFTEN of all (2).");
        e.range("price($)", 0, 2, -2, 1, 0, 0);
        e.then("sort(0, 1, 0) sort(5, 1, 0) purse()");
        e.range("price($)", 0, 2, -2, 1, 0, 0);
        e.then("set(0, 1, 6)");
        e.range("price($)", 0, 2, -2, 1, 0, 0);
        e.then("set(0, 1, 5)");
        e.range("price($)", 0, 2, -2, 1, 5, 5);
        e.then("purse() set(1, 0, 1)");
        e.range("price($)", 0, 2, -2, 1, 6, 6);
        e.town(EdgesOfTerms.TWELVE);
        e.range("price($)", 0, 2, -2, 1, 12, 12);
        e.promise(16, "BAD.");
        e.is("price(-1)", -2);
        e.is("price(3)", -2);
        e.is("price(2)", 0);
        e.then("purse() sort(0, 1, 0) set(0, 0, 3)");
        e.range("price($)", 0, 2, -2, 1, 3, 3);
    }

    private void idle() {
        e.promise(17, "SORTS (bits) of which any COIN is left behind OFTEN at a PRICE.");
        e.town("sort(0, 1, 0) sort(0, 1, 0) purse()");
        e.is("idle(0, 1)", 0);
        e.then("set(0, 0, 1)");
        e.is("idle(0, 1)", 0);
        e.is("idle(0, 2)", 1);
        e.then("set(0, 1, 1)");
        e.is("idle(0, 2)", 0);
        e.is("idle(0, 3)", 3);
        e.then("set(0, 1, 2)");
        e.is("idle(0, 2)", 2);
        e.then("set(0, 1, 3)");
        e.is("idle(0, 2)", 2);
        e.town(EdgesOfTerms.TWELVE);
        e.is("idle(0, 12)", 0);
        e.is("idle(0, 11)", 32);
        e.then("set(0, 5, 1)");
        e.is("idle(0, 12)", 63);
        e.promise(17, "-5: no such PURSE; -7: PRICE.");
        e.is("idle(0, 1)", -5);
        e.then("purse()");
        e.range("idle($, 1)", 0, 0, -5, 0);
        e.range("idle(0, $)", 1, 12, -7, 0, 0, 0, 0);
        e.is("idle(1, 0)", -5);
    }

    private void dearest() {
        e.promise(18, "The greatest PRICE at which OFTEN is n (1 .. 99) or more; 0: none.");
        e.town(EdgesOfTerms.TWELVE);
        e.range("dearest(0, $)", 1, 99, -7, 12, 6, 0, 0);
        int[] prices = {12, 6, 4, 3, 2, 2, 1, 1, 1, 1, 1, 1, 0};
        for (int n = 1; n <= prices.length; n++) {
            e.is("dearest(0, " + n + ")", prices[n - 1]);
        }
        e.town("sort(0, 1, 0) purse()");
        e.is("dearest(0, 1)", 0);
        e.then("set(0, 0, 1)");
        e.is("dearest(0, 1)", 1);
        e.is("dearest(0, 2)", 0);
        e.then("set(0, 0, 98)");
        e.range("dearest(0, $)", 1, 99, -7, 1, 1, 1, 0);
        e.then("set(0, 0, 99)");
        e.range("dearest(0, $)", 1, 99, -7, 1, 1, 1, 1);
        e.promise(18, "-5: no such PURSE; -7: n.");
        e.is("dearest(0, 1)", -5);
        e.then("purse()");
        e.range("dearest($, 1)", 0, 0, -5, 0);
        e.range("dearest(0, $)", 1, 99, -7, 0, 0, 0, 0);
        e.is("dearest(1, 0)", -5);
        e.is("dearest(1, 100)", -5);
    }
}
