/** The boundaries that promises 19 to 26 name: swaps, what is lacking, thieves, wages, the mint, years. */
final class EdgesOfSwaps {
    private final Edges e;

    EdgesOfSwaps(Edges e) {
        this.e = e;
    }

    void run() {
        swap();
        swapNumbers();
        swapState();
        best();
        bestOfLikeOnes();
        bestNumbers();
        lacks();
        thief();
        rob();
        wage();
        wageRoom();
        wageOfLikeOnes();
        wageNumbers();
        strike();
        passYears();
        passCoins();
    }

    // ---- swaps

    private void swap() {
        e.promise(19, "PURSE p truly gives q one COIN for one (unlike: 10 times the SORT given, and the SORT got): the fee.");
        e.town("sort(0, 0, 0) sort(0, 0, 0) purse() purse() set(0, 0, 1) set(1, 1, 1)");
        e.is("swap(0, 1, 1)", 1);
        e.has("0 1, 1 0");
        e.is("swap(0, 1, 10)", 1);
        e.has("1 0, 0 1");
        e.is("swap(1, 0, 10)", 1);
        e.has("0 1, 1 0");
        e.town("sort(0, 0, 0) sort(0, 1, 1) sort(0, 2, 2) sort(0, 3, 3) sort(0, 4, 4) sort(0, 5, 5) purse() purse() purse() "
            + "purse() purse() set(4, 5, 1) set(0, 0, 1) set(0, 4, 1)");
        e.law("worth 1;fee number*10+more;wage 1;");
        e.is("swap(4, 0, 50)", 50);
        e.is("swap(4, 0, 5)", 5);
        e.is("swap(4, 0, 54)", 54);
    }

    private void swapNumbers() {
        e.promise(19, "-5: no such two (alike, too); -7: no such SORTS (alike, too)");
        e.is("swap(0, 1, 1)", -5);
        e.then("purse()");
        e.is("swap(0, 1, 1)", -5);
        e.is("swap(0, 0, 1)", -5);
        e.then("purse()");
        e.is("swap(0, 1, 1)", -7);
        e.then("sort(0, 1, 0) set(0, 0, 1) set(1, 0, 1)");
        e.is("swap(0, 1, 0)", -7);
        e.is("swap(0, 1, 1)", -7);
        e.is("swap(0, 1, 10)", -7);
        e.then("sort(0, 1, 0) set(0, 0, 9) set(0, 1, 9) set(1, 0, 9) set(1, 1, 9)");
        e.range("swap($, 0, 1)", 1, 1, -5, 1);
        e.range("swap(0, $, 1)", 1, 1, -5, 1);
        e.range("swap(0, 1, $)", 1, 1, -7, 1);
        e.range("swap(0, 1, $)", 10, 10, -7, 1);
        for (int unlike : new int[] {-11, -10, -1, 0, 2, 9, 11, 12, 20, 21, 99, 100, 101, 110}) {
            e.is("swap(0, 1, " + unlike + ")", -7);
        }
        e.is("swap(0, 0, 0)", -5);
        e.is("swap(2, 1, 0)", -5);
        e.is("swap(0, 2, 99)", -5);
        e.is("swap(2, 2, 1)", -5);
        e.then("purse() sort(0, 1, 0)");
        e.is("swap(2, 2, 1)", -5);
        e.is("swap(2, 0, 22)", -7);
        e.is("swap(2, 0, 2)", -3);
        e.is("swap(0, 2, 2)", -3);
        e.has("9 9 0, 9 9 0, 0 0 0");
    }

    private void state(int given, int got, int othersGiven, int othersGot, long want) {
        e.town("sort(0, 1, 0) sort(0, 1, 0) purse() purse()");
        e.then("set(0, 0, " + given + ") set(0, 1, " + got + ") set(1, 0, " + othersGiven + ") set(1, 1, " + othersGot + ")");
        e.is("swap(0, 1, 1)", want);
        int moved = want < 0 ? 0 : 1;
        e.has((given - moved) + " " + (got + moved) + ", " + (othersGiven + moved) + " " + (othersGot - moved));
    }

    private void swapState() {
        e.promise(19, "STATE: any of these is not there, or has no room (99).");
        state(1, 0, 0, 1, 1);
        state(0, 0, 0, 1, -3);
        state(2, 0, 0, 1, 1);
        state(1, 0, 0, 0, -3);
        state(1, 0, 0, 2, 1);
        state(99, 98, 98, 99, 1);
        state(99, 97, 97, 99, 1);
        state(99, 99, 98, 99, -3);
        state(99, 98, 99, 99, -3);
        state(1, 98, 0, 1, 1);
        state(1, 99, 0, 1, -3);
        state(1, 0, 98, 1, 1);
        state(1, 0, 99, 1, -3);
        state(0, 99, 99, 0, -3);
    }

    private void bestIs(int k, int swap, int often) {
        e.is("best(0, 1, " + k + ", 0)", swap);
        e.is("best(0, 1, " + k + ", 1)", often);
    }

    private void best() {
        e.promise(20, "Of such swaps that by which OFTEN of both at a PRICE together is most, if more than now");
        e.town("sort(0, 1, 0) sort(0, 1, 0) purse() purse() set(0, 0, 2) set(1, 1, 2)");
        bestIs(2, 1, 2);
        bestIs(1, -1, 4);
        e.then("set(0, 1, 1) set(1, 0, 1)");
        bestIs(2, -1, 2);
        e.then("set(0, 0, 1) set(1, 1, 1)");
        bestIs(2, -1, 2);
        e.then("set(0, 1, 0) set(1, 0, 0)");
        bestIs(2, -1, 0);
        e.town("sort(0, 1, 9) sort(0, 1, 9) sort(0, 1, 0) purse() purse() set(0, 0, 2) set(1, 1, 3) set(1, 2, 1)");
        e.law("worth 1;fee more;wage 1;");
        bestIs(2, 1, 3);
        e.town("sort(0, 1, 0) sort(0, 1, 0) sort(0, 1, 0) purse() purse() set(0, 0, 2) set(1, 0, 98) set(1, 1, 2) set(1, 2, 98)");
        bestIs(2, 1, 100);
        e.then("set(1, 0, 99)");
        bestIs(2, -1, 99);
        e.promise(20, "10 times the SORT given, and the SORT got (what 0; -1: none), OFTEN of both then (1; as now, if none).");
        e.town("purse() purse()");
        bestIs(1, -1, 0);
        e.then("sort(0, 1, 0) set(0, 0, 99) set(1, 0, 99)");
        bestIs(1, -1, 198);
        e.then("sort(0, 1, 0) set(0, 0, 2) set(0, 1, 0) set(1, 0, 0) set(1, 1, 2)");
        bestIs(2, 1, 2);
        e.then("set(0, 0, 0) set(0, 1, 2) set(1, 0, 2) set(1, 1, 0)");
        bestIs(2, 10, 2);
        e.town("sort(0, 1, 0) sort(0, 1, 0) sort(0, 1, 0) sort(0, 1, 0) sort(0, 1, 0) sort(0, 1, 0) purse() purse() "
            + "set(0, 5, 2) set(1, 4, 2)");
        bestIs(2, 54, 2);
    }

    /** Purse 0 gives its sort 0; it can get sort 1 or sort 2, of the MORE that is told, which is the fee. */
    private void fees(int firstMore, int secondMore) {
        e.town("sort(0, 1, 0) sort(0, 1, " + firstMore + ") sort(0, 1, " + secondMore + ") purse() purse() set(0, 0, 2) "
            + "set(1, 1, 2) set(1, 2, 2)");
        e.law("worth 1;fee more;wage 1;");
    }

    private void bestOfLikeOnes() {
        e.promise(20, "of like ones the one of least fee, then the first");
        fees(5, 4);
        bestIs(2, 2, 3);
        fees(5, 5);
        bestIs(2, 1, 3);
        fees(4, 5);
        bestIs(2, 1, 3);
        fees(9, 0);
        bestIs(2, 2, 3);
        fees(0, 0);
        bestIs(2, 1, 3);
        e.town("sort(0, 5, 0) sort(0, 4, 0) sort(0, 1, 0) purse() purse() set(0, 0, 2) set(0, 1, 2) set(1, 2, 4)");
        e.law("worth 1;fee told;wage 1;");
        e.is("best(0, 1, 3, 0)", 12);
        e.law("worth 1;fee 0-told;wage 1;");
        e.is("best(0, 1, 3, 0)", 2);
    }

    private void bestNumbers() {
        e.promise(20, "-5: no such two; -7: PRICE, what.");
        e.then("purse()");
        e.is("best(0, 1, 1, 0)", -5);
        e.is("best(0, 0, 1, 0)", -5);
        e.then("purse()");
        e.range("best($, 0, 1, 0)", 1, 1, -5, -1);
        e.range("best(0, $, 1, 1)", 1, 1, -5, 0);
        e.range("best(0, 1, $, 1)", 1, 12, -7, 0, 0, 0, 0);
        e.range("best(0, 1, 1, $)", 0, 1, -7, -1, 0);
        e.is("best(0, 2, 0, 2)", -5);
        e.is("best(1, 1, 13, 2)", -5);
    }

    // ---- what is lacking, what hurts

    private void lacksIs(int k, int sort, int often) {
        e.is("lacks(" + k + ", 0)", sort);
        e.is("lacks(" + k + ", 1)", often);
    }

    private void lacks() {
        e.promise(21, "had each PURSE one more of it (99 at most)");
        e.town("sort(0, 1, 0) sort(0, 1, 0) purse() set(0, 0, 97)");
        lacksIs(1, 0, 98);
        e.then("set(0, 0, 98)");
        lacksIs(1, 0, 99);
        e.then("set(0, 0, 99)");
        lacksIs(1, 1, 100);
        e.then("set(0, 1, 99)");
        lacksIs(1, 0, 198);
        e.then("purse()");
        lacksIs(1, 0, 199);
        e.then("set(1, 0, 99)");
        lacksIs(1, 1, 298);
        e.promise(21, "OFTEN of all at a PRICE together would be most, of like ones the first (what 0), how many (1)");
        e.town("sort(0, 1, 0) sort(0, 1, 0) sort(0, 1, 0) purse() set(0, 0, 1)");
        lacksIs(1, 0, 2);
        lacksIs(2, 1, 1);
        lacksIs(3, 0, 0);
        e.then("set(0, 1, 1)");
        lacksIs(2, 0, 1);
        lacksIs(3, 2, 1);
        e.then("set(0, 1, 2)");
        lacksIs(2, 0, 2);
        e.promise(21, "-1: no SORTS. BAD.");
        lacksIs(1, -1, -1);
        e.then("purse()");
        lacksIs(12, -1, -1);
        e.range("lacks($, 0)", 1, 12, -2, -1, -1, -1, -1);
        e.range("lacks(1, $)", 0, 1, -2, -1, -1);
        e.then("sort(5, 1, 0)");
        lacksIs(1, 0, 1);
        e.range("lacks($, 0)", 1, 12, -2, 0, 0, 0, 0);
        e.range("lacks(1, $)", 0, 1, -2, 0, 1);
        e.town("sort(0, 1, 0)");
        lacksIs(1, 0, 0);
    }

    private void thiefIs(int k, int sort, int often) {
        e.is("thief(0, " + k + ", 0)", sort);
        e.is("thief(0, " + k + ", 1)", often);
    }

    private void thief() {
        e.promise(22, "had a PURSE one less of it, OFTEN at a PRICE would be least, of like ones the first (what 0), that (1)");
        e.town("sort(0, 1, 0) sort(0, 1, 0) purse() set(0, 0, 1) set(0, 1, 1)");
        thiefIs(1, 0, 1);
        thiefIs(2, 0, 0);
        e.then("set(0, 0, 2)");
        thiefIs(2, 1, 0);
        e.then("set(0, 1, 2)");
        thiefIs(2, 0, 1);
        e.then("set(0, 1, 3)");
        thiefIs(2, 0, 1);
        e.then("set(0, 0, 0)");
        thiefIs(2, 1, 0);
        thiefIs(1, 1, 2);
        e.then("set(0, 0, 99) set(0, 1, 99)");
        thiefIs(1, 0, 197);
        e.town("sort(5, 1, 0) sort(0, 1, 0) purse() set(0, 0, 6) set(0, 1, 6)");
        thiefIs(1, 1, 5);
        e.promise(22, "-1: it is empty.");
        e.town("purse()");
        thiefIs(1, -1, -1);
        e.then("sort(0, 1, 0) sort(0, 1, 0)");
        thiefIs(1, -1, -1);
        e.then("set(0, 1, 1)");
        thiefIs(1, 1, 0);
        thiefIs(12, 1, 0);
        e.then("set(0, 1, 0) set(0, 0, 1)");
        thiefIs(1, 0, 0);
        e.promise(22, "-5: no such PURSE; -7: PRICE, what.");
        e.is("thief(0, 1, 0)", -5);
        e.then("purse()");
        e.range("thief($, 1, 0)", 0, 0, -5, -1);
        e.range("thief(0, $, 0)", 1, 12, -7, -1, -1, -1, -1);
        e.range("thief(0, 1, $)", 0, 1, -7, -1, -1);
        e.is("thief(1, 0, 2)", -5);
    }

    private void rob() {
        e.promise(23, "All COINS of a PURSE of which it has just one of a SORT are truly gone: how many.");
        e.town("sort(0, 1, 0) sort(0, 1, 0) sort(0, 1, 0) purse() purse() set(1, 0, 1)");
        e.is("rob(0)", 0);
        e.then("set(0, 0, 2) set(0, 1, 1)");
        e.is("rob(0)", 1);
        e.has("2 0 0, 1 0 0");
        e.is("rob(0)", 0);
        e.then("set(0, 0, 1) set(0, 1, 1) set(0, 2, 1)");
        e.is("rob(0)", 3);
        e.has("0 0 0, 1 0 0");
        e.then("set(0, 0, 1) set(0, 1, 2) set(0, 2, 1)");
        e.is("rob(0)", 2);
        e.has("0 2 0, 1 0 0");
        e.promise(23, "-5: no such PURSE.");
        e.is("rob(0)", -5);
        e.then("purse() sort(0, 1, 0) set(0, 0, 1)");
        e.range("rob($)", 0, 0, -5, 1);
        e.then("purse() set(1, 0, 2)");
        e.range("rob($)", 0, 1, -5, 1, 0);
    }

    // ---- wages that serve most

    private void wageIs(int n, int k, int digits, int often) {
        e.is("wage(0, " + n + ", " + k + ", 0)", digits);
        e.is("wage(0, " + n + ", " + k + ", 1)", often);
    }

    private void wage() {
        e.promise(24, "n (0 .. 4) COINS more");
        e.town("sort(0, 1, 0) purse()");
        e.range("wage(0, $, 1, 0)", 0, 4, -7, 0, 1, 111, 1111);
        e.range("wage(0, $, 1, 1)", 0, 4, -7, 0, 1, 3, 4);
        e.then("sort(0, 1, 0)");
        e.range("wage(0, $, 2, 0)", 0, 4, -7, 0, 1, 112, 1122);
        e.range("wage(0, $, 2, 1)", 0, 4, -7, 0, 0, 1, 2);
        e.has("0 0");
        e.promise(24, "as digits, 1 more than the SORT each, by SORTS (what 0; 0: n is 0), OFTEN then (1)");
        e.town("purse()");
        wageIs(0, 1, 0, 0);
        e.then("sort(0, 1, 0) set(0, 0, 99)");
        wageIs(0, 1, 0, 99);
        e.town("sort(0, 1, 0) sort(0, 1, 0) sort(0, 1, 0) sort(0, 1, 0) sort(0, 1, 0) sort(0, 1, 0) purse()");
        wageIs(4, 4, 1234, 1);
        e.then("set(0, 0, 1) set(0, 1, 1)");
        wageIs(4, 6, 3456, 1);
        wageIs(3, 6, 111, 0);
        wageIs(1, 3, 3, 1);
        e.then("set(0, 2, 1) set(0, 3, 1) set(0, 4, 1)");
        wageIs(1, 6, 6, 1);
        wageIs(0, 6, 0, 0);
    }

    private void wageRoom() {
        e.promise(24, "of any SORTS (99 of each at most)");
        e.town("sort(0, 1, 0) sort(0, 1, 0) purse() set(0, 0, 98)");
        wageIs(1, 1, 1, 99);
        wageIs(2, 1, 12, 100);
        e.then("set(0, 0, 99)");
        wageIs(1, 1, 2, 100);
        wageIs(4, 1, 2222, 103);
        e.then("set(0, 1, 95)");
        wageIs(4, 1, 2222, 198);
        e.then("set(0, 1, 96)");
        wageIs(3, 1, 222, 198);
        e.then("set(0, 0, 98)");
        wageIs(4, 1, 1222, 198);
        e.promise(24, "-1: there is no such way.");
        e.town("purse()");
        wageIs(1, 1, -1, -1);
        wageIs(4, 12, -1, -1);
        wageIs(0, 12, 0, 0);
        e.then("sort(0, 1, 0) set(0, 0, 95)");
        wageIs(4, 1, 1111, 99);
        e.then("set(0, 0, 96)");
        wageIs(4, 1, -1, -1);
        wageIs(3, 1, 111, 99);
        e.then("set(0, 0, 98)");
        wageIs(2, 1, -1, -1);
        wageIs(1, 2, 1, 0);
        e.then("set(0, 0, 99)");
        wageIs(1, 1, -1, -1);
        wageIs(0, 1, 0, 99);
        e.then("sort(0, 1, 0) set(0, 1, 98)");
        wageIs(1, 1, 2, 198);
        wageIs(2, 1, -1, -1);
    }

    private void wageOfLikeOnes() {
        e.promise(24, "by which OFTEN at a PRICE would be most, of like ones the first");
        e.town("sort(0, 1, 0) sort(0, 1, 0) sort(0, 1, 0) purse()");
        wageIs(2, 1, 11, 2);
        wageIs(2, 2, 12, 1);
        wageIs(2, 3, 11, 0);
        wageIs(3, 2, 112, 1);
        wageIs(3, 3, 123, 1);
        e.then("set(0, 0, 3)");
        wageIs(2, 2, 22, 2);
        wageIs(3, 2, 222, 3);
        wageIs(2, 3, 23, 1);
        e.then("set(0, 0, 2)");
        wageIs(3, 2, 122, 2);
    }

    private void wageNumbers() {
        e.promise(24, "-5: no such PURSE; -7: n, PRICE, what.");
        e.is("wage(0, 1, 1, 0)", -5);
        e.then("purse()");
        e.range("wage($, 1, 1, 0)", 0, 0, -5, -1);
        e.range("wage(0, $, 1, 0)", 0, 4, -7, 0, -1, -1, -1);
        e.range("wage(0, 0, $, 1)", 1, 12, -7, 0, 0, 0, 0);
        e.range("wage(0, 1, 1, $)", 0, 1, -7, -1, -1);
        e.is("wage(1, 5, 0, 2)", -5);
        e.is("wage(0, 1, 0, 0)", -7);
        e.is("wage(0, 1, 1, 2)", -7);
    }

    // ---- the mint, years

    private void strike() {
        e.promise(25, "Each PURSE truly has n (0 .. 20) more of a SORT, 99 at most: how many came together.");
        e.town("sort(0, 1, 0) sort(0, 1, 0)");
        e.is("strike(0, 20)", 0);
        e.then("purse() purse() set(1, 1, 50)");
        e.range("strike(0, $)", 0, 20, -7, 0, 2, 38, 40);
        e.is("strike(0, 20)", 40);
        e.has("20 0, 20 50");
        e.is("strike(1, 1)", 2);
        e.has("20 1, 20 51");
        e.then("set(0, 0, 78) set(1, 0, 79)");
        e.is("strike(0, 20)", 40);
        e.has("98 1, 99 51");
        e.is("strike(0, 1)", 1);
        e.has("99 1, 99 51");
        e.is("strike(0, 20)", 0);
        e.then("set(0, 0, 80) set(1, 0, 98)");
        e.is("strike(0, 20)", 20);
        e.has("99 1, 99 51");
        e.promise(25, "-5: no such SORT; -7: n.");
        e.is("strike(0, 1)", -5);
        e.then("purse()");
        e.is("strike(0, 21)", -5);
        e.then("sort(0, 1, 0)");
        e.range("strike($, 1)", 0, 0, -5, 1);
        e.range("strike(0, $)", 0, 20, -7, 0, 1, 19, 20);
        e.is("strike(1, -1)", -5);
        e.then("sort(0, 1, 0)");
        e.range("strike($, 1)", 0, 1, -5, 1, 1);
    }

    private void passYears() {
        e.promise(26, "THE YEAR is 1 more (99 at most)");
        e.town("sort(0, 1, 0) purse()");
        e.law("worth 1;fee 1;wage year=1;");
        e.is("pass()", 1);
        e.is("count(2)", 1);
        e.is("pass()", 1);
        e.is("count(2)", 2);
        e.town("sort(0, 1, 0) purse()");
        e.law("worth 1;fee 1;wage (year=98)+2*(year=99);");
        e.then("pass()", 97);
        e.is("count(2)", 97);
        e.is("pass()", 1);
        e.is("count(2)", 98);
        e.is("pass()", 3);
        e.is("count(2)", 99);
        e.is("pass()", 5);
        e.is("count(2)", 99);
        e.promise(26, "how many COINS all PURSES have.");
        e.is("pass()", 0);
        e.then("sort(0, 1, 0) sort(0, 1, 0)");
        e.is("pass()", 0);
        e.then("purse()");
        e.is("pass()", 2);
        e.then("purse() purse() purse() purse()");
        e.is("pass()", 12);
        e.has("2 2, 1 1, 1 1, 1 1, 1 1");
    }

    /** What a purse has of a sort, TOLD 10, behind a year in which so much is paid. */
    private void behind(int kind, int more, int many, int wage, int want) {
        e.town("sort(" + kind + ", 10, " + more + ") purse() set(0, 0, " + many + ")");
        e.law("worth 1;fee 1;wage " + wage + ";");
        e.is("pass()", want);
        e.has(String.valueOf(want));
    }

    private void passCoins() {
        e.promise(26, "then of each PURSE, each SORT, as many are left as its KIND tells, and wage (by these) come, 99 at most");
        behind(0, 0, 0, 0, 0);
        behind(0, 0, 0, 9, 9);
        behind(0, 0, 89, 9, 98);
        behind(0, 0, 90, 9, 99);
        behind(0, 0, 91, 9, 99);
        behind(0, 0, 98, 1, 99);
        behind(0, 0, 99, 0, 99);
        behind(0, 0, 99, 9, 99);
        behind(4, 0, 0, 1, 1);
        behind(4, 0, 1, 1, 1);
        behind(4, 0, 99, 0, 98);
        behind(4, 0, 99, 1, 99);
        behind(4, 0, 99, 2, 99);
        behind(5, 9, 99, 9, 9);
        behind(5, 0, 99, 9, 99);
        behind(5, 8, 8, 1, 1);
        behind(5, 8, 9, 1, 2);
        e.town("sort(5, 1, 9) sort(4, 1, 0) purse() set(0, 0, 9) set(0, 1, 1)");
        e.law("worth 1;fee 1;wage 5*(many=0);");
        e.is("pass()", 10);
        e.is("pass()", 9);
        e.has("5 4");
        e.town("sort(0, 1, 0) sort(0, 1, 0) purse() purse() set(0, 0, 99) set(0, 1, 98) set(1, 0, 97)");
        e.law("worth 1;fee 1;wage 2;");
        e.is("pass()", 299);
        e.has("99 99, 99 2");
    }
}
