/** The boundaries that promises 27 to 40 name: what was in a purse, markets by lot, images, the host. */
final class EdgesOfSheets {
    private static final String SIX_PLAIN = "sort(0, 1, 0) sort(0, 1, 0) sort(0, 1, 0) sort(0, 1, 0) sort(0, 1, 0) sort(0, 1, 0) ";

    private final Edges e;

    EdgesOfSheets(Edges e) {
        this.e = e;
    }

    void run() {
        judge();
        whose();
        was();
        wasOfSix();
        film();
        laws();
        drawn();
        mean();
        meanNumbers();
        image();
        back();
        sheet();
        cell();
        cellRefusals();
        copy();
        copyRefusals();
        coinsBy();
        coinsByRefusals();
        taken();
        takenRefusals();
    }

    /** Sheet 0 becomes that of these ints. */
    private void tells(int... numbers) {
        row(0, 2, numbers);
    }

    private void row(int s, int sort, int... numbers) {
        e.then("sheet(" + s + ", " + sort + ", " + numbers.length + ")");
        for (int i = 0; i < numbers.length; i++) {
            if (numbers[i] != 0) {
                e.then("cell(" + s + ", " + i + ", " + numbers[i] + ")");
            }
        }
    }

    // ---- what was in a purse

    private void judge() {
        e.promise(27, "A SHEET tells OFTEN at PRICES 1, 2, ..: the first PRICE at which it is otherwise of a PURSE; -1: none.");
        e.town(EdgesOfTerms.TWELVE);
        tells();
        e.is("judge(0, 0)", -1);
        for (int often : new int[] {-1, 0, 11, 13, 99}) {
            tells(often);
            e.is("judge(0, 0)", 1);
        }
        tells(12);
        e.is("judge(0, 0)", -1);
        tells(12, 5);
        e.is("judge(0, 0)", 2);
        tells(12, 7);
        e.is("judge(0, 0)", 2);
        tells(12, 6, 4, 3, 2, 2, 1, 1, 1, 1, 1, 0);
        e.is("judge(0, 0)", 12);
        e.then("cell(0, 11, 2)");
        e.is("judge(0, 0)", 12);
        e.then("cell(0, 11, 1)");
        e.is("judge(0, 0)", -1);
        e.then("cell(0, 10, 0)");
        e.is("judge(0, 0)", 11);
        e.then("cell(0, 0, 11)");
        e.is("judge(0, 0)", 1);
        e.promise(27, "BAD: SHEET; -11; BAD: it tells more than 12; -5: no such PURSE.");
        e.is("judge(0, 0)", -11);
        e.is("judge(-1, 0)", -2);
        e.is("judge(4, 0)", -2);
        e.then("sheet(0, 0, 12) sheet(1, 1, 13) sheet(2, 2, 40) sheet(3, 2, 0)");
        e.is("judge(0, 0)", -5);
        e.is("judge(0, -1)", -5);
        e.then("purse() sort(0, 1, 0)");
        e.range("judge(0, $)", 0, 0, -5, -1);
        e.range("judge($, 0)", 0, 3, -2, -1, -2, -2, -1);
        e.range("judge(3, $)", 0, 0, -5, -1);
        e.is("judge(1, 9)", -2);
        e.is("judge(4, 9)", -2);
        e.then("sheet(0, -1, 0)");
        e.is("judge(0, 9)", -11);
        e.then("sheet(0, 0, 11)");
        e.is("judge(0, 0)", -1);
    }

    private void whose() {
        e.promise(28, "PURSES (bits) of which that is -1.");
        e.town("sort(0, 1, 0)");
        tells();
        e.is("whose(0)", 0);
        for (int p = 0; p < 5; p++) {
            e.then("purse()");
            e.is("whose(0)", (2 << p) - 1);
        }
        tells(1);
        e.is("whose(0)", 0);
        e.then("set(0, 0, 1)");
        e.is("whose(0)", 1);
        e.then("set(4, 0, 1)");
        e.is("whose(0)", 17);
        e.then("set(4, 0, 2)");
        e.is("whose(0)", 1);
        e.then("set(0, 0, 99)");
        tells(99, 0);
        e.is("whose(0)", 1);
        e.promise(28, "BAD, -11, BAD likewise.");
        e.range("whose($)", 0, 3, -2, -11, -11, -11, -11);
        e.then("sheet(0, 0, 11) sheet(1, 0, 12) sheet(2, 0, 13) sheet(3, 0, 40)");
        e.range("whose($)", 0, 3, -2, 0, 0, -2, -2);
        e.then("purse()");
        e.range("whose($)", 0, 3, -2, 1, 1, -2, -2);
    }

    private void wasIs(int many, int first) {
        e.is("was(0, 0)", many);
        e.is("was(0, 1)", first);
    }

    private void was() {
        e.promise(29, "Of all that a PURSE could have, 0 .. 3 of each SORT, those of which it would be -1: "
            + "what 0 how many, 1 the first, SORT by SORT (as digits, SORT 0's the highest; -1: none).");
        tells();
        wasIs(1, 0);
        tells(0);
        wasIs(1, 0);
        tells(1);
        wasIs(0, -1);
        e.then("sort(0, 1, 0)");
        tells();
        wasIs(4, 0);
        for (int often = 0; often <= 3; often++) {
            tells(often);
            wasIs(1, often);
        }
        tells(-1);
        wasIs(0, -1);
        tells(4);
        wasIs(0, -1);
        e.then("sort(0, 1, 0) purse() set(0, 0, 99)");
        tells(6);
        wasIs(1, 33);
        tells(7);
        wasIs(0, -1);
        tells(5);
        wasIs(2, 23);
        tells(1);
        wasIs(2, 1);
        tells(3);
        wasIs(4, 3);
        tells(3, 1);
        wasIs(2, 12);
        tells(99);
        wasIs(0, -1);
        e.has("99 0");
        e.promise(29, "BAD, -11, BAD likewise; -7: what.");
        e.range("was($, 0)", 0, 3, -2, -11, -11, -11, -11);
        e.is("was(0, 2)", -11);
        e.is("was(4, 2)", -2);
        e.then("sheet(0, 0, 11) sheet(1, 0, 12) sheet(2, 0, 13) sheet(3, 0, 40)");
        e.range("was($, 0)", 0, 3, -2, 1, 1, -2, -2);
        e.range("was(1, $)", 0, 1, -7, 1, 0);
        e.is("was(2, 2)", -2);
        e.is("was(2, -1)", -2);
    }

    private void wasOfSix() {
        e.promise(29, "0 .. 3 of each SORT");
        e.town(SIX_PLAIN);
        tells();
        wasIs(4096, 0);
        tells(18);
        wasIs(1, 333333);
        tells(17);
        wasIs(6, 233333);
        tells(19);
        wasIs(0, -1);
        tells(0);
        wasIs(1, 0);
        tells(1);
        wasIs(6, 1);
        tells(18, 9, 6, 4, 3, 3, 0, 0, 0, 0, 0, 0);
        wasIs(1, 333333);
    }

    private void film() {
        e.promise(30, "A SHEET truly becomes that of n (0 .. 12) PRICES (ints): n.");
        e.town("sort(0, 1, 0) purse() set(0, 0, 9) sheet(1, 0, 3) cell(1, 0, 5)");
        e.range("film(1, 0, $)", 0, 12, -7, 0, 1, 11, 12);
        for (int n : new int[] {0, 1, 2, 11, 12}) {
            e.is("film(1, 0, " + n + ")", n);
            e.numbers(1, ("9" + " 0".repeat(11)).substring(0, Math.max(0, 2 * n - 1)));
            e.is("cell(1, " + n + ", 0)", -12);
            e.is("coinsBy(1, 2, 0, 0)", 0);
            e.is("judge(1, 0)", -1);
        }
        e.town(SIX_PLAIN + "purse() set(0, 0, 99) set(0, 1, 99) set(0, 2, 99) set(0, 3, 99) set(0, 4, 99) set(0, 5, 99)");
        e.is("film(0, 0, 1)", 1);
        e.is("whose(0)", 1);
        tells(594);
        e.is("whose(0)", 1);
        e.promise(30, "BAD: SHEET; -5: no such PURSE; -7: n.");
        e.is("film(0, 0, 0)", -5);
        e.is("film(4, 0, 13)", -2);
        e.then("purse() sheet(1, 0, 3) cell(1, 0, 5)");
        e.range("film($, 0, 1)", 0, 3, -2, 1, 1, 1, 1);
        e.range("film(1, $, 1)", 0, 0, -5, 1);
        e.range("film(1, 0, $)", 0, 12, -7, 0, 1, 11, 12);
        e.is("film(1, 1, 13)", -5);
        e.is("film(1, 0, 13)", -7);
        e.numbers(1, "5 0 0");
    }

    private void laws() {
        e.promise(31, "TEXTS (bits) by which, were they THE LAW, OFTEN of a PURSE at a PRICE times worth is just so much (0 .. 99999).");
        e.town("sort(0, 1, 0) purse() set(0, 0, 3)");
        e.tape("worth 2;fee 1;wage 1;");
        e.then("text()");
        e.tape("worth 3;fee 1;wage 1;");
        e.then("text()");
        e.range("laws(0, 1, $)", 0, 99999, -7, 0, 0, 0, 0);
        int[] bits = {0, 3, 0, 0, 4, 0};
        for (int i = 0; i < bits.length; i++) {
            e.is("laws(0, 1, " + (5 + i) + ")", bits[i]);
        }
        e.range("laws(0, 2, $)", 0, 99999, -7, 7, 0, 0, 0);
        e.then("force(2)");
        e.is("laws(0, 1, 6)", 3);
        e.town(SIX_PLAIN + "purse() set(0, 0, 99) set(0, 1, 99) set(0, 2, 99) set(0, 3, 99) set(0, 4, 99) set(0, 5, 99)");
        for (int t = 1; t <= 5; t++) {
            e.tape("worth 9" + (4 + t) + ";fee 1;wage 1;");
            e.then("text()");
        }
        e.is("laws(0, 1, 58805)", 0);
        e.is("laws(0, 1, 58806)", 32);
        e.is("laws(0, 1, 58807)", 0);
        e.is("laws(0, 1, 56430)", 2);
        e.is("laws(0, 1, 1188)", 1);
        e.is("laws(0, 12, 0)", 63);
        e.promise(31, "-5: no such PURSE; -7: PRICE, much.");
        e.is("laws(0, 1, 0)", -5);
        e.then("purse()");
        e.range("laws($, 1, 0)", 0, 0, -5, 1);
        e.range("laws(0, $, 0)", 1, 12, -7, 1, 1, 1, 1);
        e.range("laws(0, 1, $)", 0, 99999, -7, 1, 0, 0, 0);
        e.is("laws(1, 0, -1)", -5);
    }

    // ---- markets by lot

    private void drawn() {
        e.promise(32, "DRAWN: how many could; without PURSES 0. BAD.");
        e.then("sort(0, 1, 0)");
        e.range("drawn($, 40)", 0, 99999, -2, 0, 0, 0, 0);
        e.range("drawn(0, $)", 0, 40, -2, 0, 0, 0, 0);
        e.then("purse()");
        e.is("drawn(0, 1)", 0);
        e.then("set(0, 0, 1)");
        e.is("drawn(0, 0)", 0);
        e.is("drawn(0, 1)", 1);
        e.is("drawn(0, 40)", 1);
        e.range("drawn($, 1)", 0, 99999, -2, 1, 1, 0, 0);
        e.is("drawn(-1, 41)", -2);
    }

    /** With one coin, and one draw, the seeds up to 10 draw price 1, which can be laid; the next ones do not. */
    private void mean() {
        e.promise(33, "over so many (1 .. 20) seeds, SEED and each 1 more");
        e.town("sort(0, 1, 0) purse() set(0, 0, 1)");
        e.range("mean(0, $, 1, 0)", 1, 20, -4611686018427387904L, 1, 1, 11, 11);
        e.range("mean(0, $, 1, 1)", 1, 20, -4611686018427387904L, 1, 1, 19, 20);
        e.is("mean(10, 1, 1, 0)", 1);
        e.is("mean(11, 1, 1, 0)", 0);
        e.is("mean(10, 2, 1, 0)", 1);
        e.is("mean(10, 2, 1, 1)", 2);
        e.is("mean(9, 2, 1, 1)", 1);
        e.is("mean(9, 3, 1, 0)", 2);
        e.is("mean(9, 3, 1, 1)", 3);
        e.promise(33, "part 0 above, 1 below the line, in lowest terms.");
        e.town("sort(0, 1, 0) purse() set(0, 0, 1)");
        int[][] means = {{0, 11, 1, 1}, {0, 12, 11, 12}, {9, 4, 1, 2}, {7, 6, 2, 3}, {8, 9, 1, 3}, {1, 20, 1, 2}, {3, 20, 2, 5},
            {2, 20, 9, 20}, {11, 1, 0, 1}, {11, 20, 0, 1}, {11, 7, 0, 1}, {10, 20, 1, 20}};
        for (int[] m : means) {
            e.is("mean(" + m[0] + ", " + m[1] + ", 1, 0)", m[2]);
            e.is("mean(" + m[0] + ", " + m[1] + ", 1, 1)", m[3]);
        }
        e.is("mean(0, 20, 0, 0)", 0);
        e.is("mean(0, 20, 0, 1)", 1);
        e.town("sort(0, 1, 0)");
        e.is("mean(0, 20, 40, 0)", 0);
        e.is("mean(0, 20, 40, 1)", 1);
    }

    private void meanNumbers() {
        e.promise(33, "NO: none such.");
        e.then("sort(3, 1, 0) sort(3, 1, 0) sort(3, 1, 0) purse() set(0, 0, 99) set(0, 1, 99) set(0, 2, 99)");
        long no = -4611686018427387904L;
        e.range("mean($, 1, 1, 0)", 0, 99999, no, 1, 1, 1, 1);
        e.range("mean(99980, $, 1, 0)", 1, 20, no, 1, 1, 1, 1);
        e.range("mean(0, 1, $, 0)", 0, 40, no, 0, 1, 39, 40);
        e.range("mean(0, 3, 40, $)", 0, 1, no, 40, 1);
        e.is("mean(-1, 0, 41, 2)", no);
    }

    private void image() {
        e.promise(34, "AN IMAGE is kept: how many PURSES.");
        for (int p = 0; p < 5; p++) {
            e.is("image()", p);
            e.then("purse()");
        }
        e.is("image()", 5);
        e.is("back()", 5);
        e.town("sort(0, 1, 0) purse() set(0, 0, 1) image() set(0, 0, 2)");
        e.is("image()", 1);
        e.then("set(0, 0, 3)");
        e.is("back()", 1);
        e.has("2");
    }

    private void back() {
        e.promise(35, "All that it keeps is as in THE IMAGE, PURSES, SORTS that came since are none: how many PURSES there are.");
        e.town("sort(0, 1, 0) purse() set(0, 0, 99) image() sort(1, 1, 0) purse() set(1, 0, 5) set(1, 1, 6) set(0, 1, 7)");
        e.is("back()", 1);
        e.has("99");
        e.is("of(1, 0)", -5);
        e.is("of(0, 1)", -5);
        e.is("told(1, 0)", -5);
        e.is("taken(6, 1)", -11);
        e.is("taken(1, 6)", -11);
        e.is("purse()", 1);
        e.is("sort(5, 1, 0)", 1);
        e.has("99 0, 0 0");
        e.is("back()", 1);
        e.is("back()", 1);
        e.then("set(0, 0, 5) pass()");
        e.is("back()", 1);
        e.has("99");
        e.is("count(2)", 0);
        e.then("sort(1, 1, 0) set(0, 1, 5)");
        e.is("back()", 1);
        e.is("count(0)", 1);
        e.town("image()");
        e.law("worth 7;fee 8;wage 9;");
        e.then("pass()", 100);
        e.is("back()", 0);
        e.is("count(4)", 0);
        e.is("count(2)", 0);
        e.is("count(3)", 2);
        e.town("image() purse() purse() purse() purse() purse() " + SIX_PLAIN);
        e.is("purse()", -4);
        e.is("sort(0, 1, 0)", -4);
        e.is("back()", 0);
        e.is("all(0, 0)", -5);
        e.is("sort(0, 1, 0)", 0);
        e.is("purse()", 0);
        e.promise(35, "STATE: there is none.");
        e.is("back()", -3);
        e.then("sort(0, 1, 0) purse() set(0, 0, 4) pass()");
        e.is("back()", -3);
        e.has("5");
        e.then("image()");
        e.is("back()", 1);
    }

    // ---- the host

    private void sheet() {
        e.promise(36, "A SHEET becomes a row of n of a sort, all 0, or missing (sort -1: n does not matter): 1.");
        for (int sort = 0; sort < 3; sort++) {
            e.town("");
            row(1, sort, 5, 6, 7);
            e.is("sheet(1, " + sort + ", 3)", 1);
            e.numbers(1, "0 0 0");
            e.then("cell(1, 2, 9)");
            e.is("sheet(1, " + sort + ", 1)", 1);
            e.numbers(1, "0");
            e.is("sheet(1, " + sort + ", 4)", 1);
            e.numbers(1, "0 0 0 0");
            e.is("sheet(1, " + sort + ", 0)", 1);
            e.numbers(1, "");
            e.is("cell(1, 0, 0)", -12);
        }
        for (String n : new String[] {"MIN", "-1", "0", "1", "40", "41", "MAX"}) {
            e.then("sheet(1, 2, 1)");
            e.is("sheet(1, -1, " + n + ")", 1);
            e.is("cell(1, 0, 0)", -11);
            e.is("sheet(1, -1, " + n + ")", 1);
        }
        e.promise(36, "BAD: SHEET, sort, n above 40; -14.");
        e.range("sheet($, 0, 1)", 0, 3, -2, 1, 1, 1, 1);
        e.range("sheet($, -1, -1)", 0, 3, -2, 1, 1, 1, 1);
        e.range("sheet(0, $, 1)", -1, 2, -2, 1, 1, 1, 1);
        e.sides("sheet(0, 0, $)", 0, 40, -14, -2, 1, 1, 1, 1);
        row(0, 2, 7, 8);
        e.is("sheet(0, 3, -1)", -2);
        e.is("sheet(0, -2, -1)", -2);
        e.is("sheet(4, 0, -1)", -2);
        e.is("sheet(0, 1, 41)", -2);
        e.is("sheet(0, 1, -1)", -14);
        e.numbers(0, "7 8");
    }

    private void becomes(int sort, int v, String want) {
        e.town("");
        row(1, sort, 1, 1, 1);
        e.is("cell(1, 1, " + v + ")", 1);
        e.numbers(1, "1 " + want + " 1");
    }

    private void cell() {
        e.promise(37, "Number i of a SHEET becomes v (of bytes, shorts its lowest 8, 16 bits): 1.");
        int[] ofBytes = {0, 99, 256, 257, 355, -256, -255, 512, 65537, Integer.MIN_VALUE, Integer.MIN_VALUE + 7};
        int[] bytes = {0, 99, 0, 1, 99, 0, 1, 0, 1, 0, 7};
        for (int i = 0; i < bytes.length; i++) {
            becomes(0, ofBytes[i], String.valueOf(bytes[i]));
        }
        int[] ofShorts = {0, 99, 65536, 65537, -65536, -65535, 131072, Integer.MIN_VALUE, Integer.MIN_VALUE + 7};
        int[] shorts = {0, 99, 0, 1, 0, 1, 0, 0, 7};
        for (int i = 0; i < shorts.length; i++) {
            becomes(1, ofShorts[i], String.valueOf(shorts[i]));
        }
        for (int v : new int[] {-1, 255, 128, -128, 100, Integer.MAX_VALUE}) {
            becomes(0, v, "?");
            becomes(1, v, "?");
            becomes(2, v, "?");
        }
        for (int v : new int[] {256, 257, -255, 32768, 65535}) {
            becomes(1, v, "?");
            becomes(2, v, "?");
        }
        becomes(2, 65536, "?");
        becomes(2, 65537, "?");
        becomes(2, Integer.MIN_VALUE, "?");
        e.town("sort(0, 1, 0) sort(0, 1, 0) purse() purse() set(0, 0, 99) set(0, 1, 28) set(1, 0, 99) set(1, 1, 29)");
        row(0, 0, 127);
        e.is("whose(0)", 1);
        row(0, 0, 128);
        e.is("whose(0)", 0);
        row(0, 0, 127 + 256);
        e.is("whose(0)", 1);
        row(0, 1, 128);
        e.is("whose(0)", 2);
        row(0, 1, 128 + 65536);
        e.is("whose(0)", 2);
        row(0, 2, 128);
        e.is("whose(0)", 2);
        row(0, 2, 128 + 65536);
        e.is("whose(0)", 0);
    }

    private void cellRefusals() {
        e.promise(37, "BAD: SHEET; -11; -12.");
        e.then("sheet(3, 0, 0)");
        e.range("cell($, 0, 0)", 0, 3, -2, -11, -11, -11, -12);
        e.is("cell(0, -1, 0)", -11);
        for (int n : new int[] {1, 2, 39, 40}) {
            e.then("sheet(0, 2, " + n + ")");
            long[] good = new long[Math.min(n, 4)];
            java.util.Arrays.fill(good, 1);
            e.range("cell(0, $, 7)", 0, n - 1, -12, good);
        }
        e.is("cell(4, 40, 0)", -2);
        row(0, 2, 5, 6);
        e.is("cell(0, 2, 7)", -12);
        e.is("cell(0, -1, 7)", -12);
        e.is("cell(0, 0, 7)", 1);
        e.is("cell(0, 1, 8)", 1);
        e.numbers(0, "7 8");
    }

    private void twoRows() {
        e.town("");
        row(0, 2, 1, 2, 3, 4, 5);
        row(1, 2, 11, 12, 13);
    }

    private void copyIs(String call, int n, String first, String second) {
        twoRows();
        e.is(call, n);
        e.numbers(0, first);
        e.numbers(1, second);
    }

    private void copy() {
        e.promise(38, "n numbers of a SHEET, from i on, come to another one's (or its own) place j (as they were): n.");
        copyIs("copy(0, 0, 1, 0, 0)", 0, "1 2 3 4 5", "11 12 13");
        copyIs("copy(0, 5, 1, 3, 0)", 0, "1 2 3 4 5", "11 12 13");
        copyIs("copy(0, 0, 1, 0, 1)", 1, "1 2 3 4 5", "1 12 13");
        copyIs("copy(0, 4, 1, 2, 1)", 1, "1 2 3 4 5", "11 12 5");
        copyIs("copy(0, 0, 1, 0, 3)", 3, "1 2 3 4 5", "1 2 3");
        copyIs("copy(0, 2, 1, 0, 3)", 3, "1 2 3 4 5", "3 4 5");
        copyIs("copy(1, 0, 0, 2, 3)", 3, "1 2 11 12 13", "11 12 13");
        copyIs("copy(0, 0, 0, 0, 5)", 5, "1 2 3 4 5", "11 12 13");
        copyIs("copy(0, 0, 0, 1, 4)", 4, "1 1 2 3 4", "11 12 13");
        copyIs("copy(0, 1, 0, 0, 4)", 4, "2 3 4 5 5", "11 12 13");
        copyIs("copy(0, 0, 0, 3, 2)", 2, "1 2 3 1 2", "11 12 13");
        for (int sort = 0; sort < 3; sort++) {
            e.town("sheet(1, " + sort + ", 40)");
            row(0, sort, 7, 8);
            e.is("copy(0, 0, 1, 38, 2)", 2);
            e.is("copy(1, 38, 0, 1, 1)", 1);
            e.numbers(0, "7 7");
            e.is("copy(1, 39, 0, 1, 1)", 1);
            e.numbers(0, "7 8");
            e.is("copy(1, 0, 1, 0, 40)", 40);
            e.is("copy(1, 0, 1, 0, 41)", -12);
        }
        e.town("sheet(0, 2, 0) sheet(1, 2, 0)");
        e.is("copy(0, 0, 1, 0, 0)", 0);
        e.is("copy(0, 0, 1, 0, 1)", -12);
    }

    private void copyRefusals() {
        e.promise(38, "BAD: SHEETS; -11; -13: unlike sorts; -12 (n below 0, too).");
        twoRows();
        e.range("copy($, 0, 0, 0, 1)", 0, 3, -2, 1, 1, -11, -11);
        e.range("copy(0, 0, $, 0, 1)", 0, 3, -2, 1, 1, -11, -11);
        e.range("copy(0, $, 1, 0, 2)", 0, 3, -12, 2, 2, 2, 2);
        e.range("copy(0, 0, 1, $, 2)", 0, 1, -12, 2, 2);
        e.range("copy(0, 0, 1, 0, $)", 0, 3, -12, 0, 1, 2, 3);
        e.range("copy(0, 2, 0, 0, $)", 0, 3, -12, 0, 1, 2, 3);
        e.range("copy(0, 0, 0, 2, $)", 0, 3, -12, 0, 1, 2, 3);
        e.range("copy(0, $, 1, 0, 0)", 0, 5, -12, 0, 0, 0, 0);
        e.range("copy(0, 0, 1, $, 0)", 0, 3, -12, 0, 0, 0, 0);
        e.is("copy(0, MAX, 1, 0, MAX)", -12);
        e.is("copy(0, MIN, 1, MIN, MIN)", -12);
        e.is("copy(0, 1, 1, 1, MAX)", -12);
        e.is("copy(0, -1, 1, 0, -1)", -12);
        e.numbers(1, "11 12 13");
        e.then("sheet(2, 1, 5)");
        e.is("copy(0, 0, 2, 0, 1)", -13);
        e.is("copy(2, 0, 0, 0, 0)", -13);
        e.is("copy(2, -1, 0, 9, -1)", -13);
        e.is("copy(2, -1, 3, 9, -1)", -11);
        e.is("copy(3, -1, 2, 9, -1)", -11);
        e.is("copy(3, -1, 4, 9, -1)", -2);
        e.is("copy(-1, -1, 3, 9, -1)", -2);
        e.then("sheet(2, 0, 5)");
        e.is("copy(0, 0, 2, 0, 1)", -13);
        e.then("sheet(1, 1, 5)");
        e.is("copy(1, 0, 2, 0, 1)", -13);
        e.is("copy(2, 0, 1, 0, 1)", -13);
    }

    private void coinsBy() {
        e.promise(39, "COINS by a SHEET of a sort: from a place on, three by three (as of set()), n of them (0 .. 10): "
            + "how many were set (others are left out).");
        e.town("sort(0, 1, 0) sort(0, 1, 0) purse() purse() sheet(0, 0, 30)");
        e.range("coinsBy(0, 0, 0, $)", 0, 10, -2, 0, 1, 9, 10);
        e.is("coinsBy(0, 0, 0, 10)", 10);
        row(0, 2, 0, 0, 99, 1, 1, 1, 0, 1, 98);
        e.is("coinsBy(0, 2, 0, 0)", 0);
        e.has("0 0, 0 0");
        e.is("coinsBy(0, 2, 0, 1)", 1);
        e.has("99 0, 0 0");
        e.is("coinsBy(0, 2, 0, 3)", 3);
        e.has("99 98, 0 1");
        e.then("set(0, 0, 0) set(0, 1, 0)");
        e.is("coinsBy(0, 2, 3, 2)", 2);
        e.has("0 98, 0 1");
        e.is("coinsBy(0, 2, 6, 1)", 1);
        row(0, 2, -1, 0, 5, 2, 0, 5, 0, -1, 5, 0, 2, 5, 0, 0, -1, 0, 0, 100, 0, 0, 99);
        e.is("coinsBy(0, 2, 0, 6)", 0);
        e.has("0 98, 0 1");
        e.is("coinsBy(0, 2, 0, 7)", 1);
        e.has("99 98, 0 1");
        row(0, 2, 1, 0, 0, 1, 0, 7, 1, 0, 3);
        e.is("coinsBy(0, 2, 0, 3)", 3);
        e.has("99 98, 3 1");
        row(0, 1, 0, 0, 98, 1, 0, 100);
        e.is("coinsBy(0, 1, 0, 2)", 1);
        e.has("98 98, 3 1");
    }

    private void coinsByRefusals() {
        e.promise(39, "BAD: SHEET, sort, n; -11; -13; -12: what stood ahead was set.");
        e.town("sort(0, 1, 0) purse() sheet(0, 1, 6) cell(0, 2, 7) cell(0, 5, 8)");
        e.range("coinsBy($, 1, 0, 1)", 0, 3, -2, 1, -11, -11, -11);
        e.range("coinsBy(0, $, 0, 1)", 0, 2, -2, -13, 1, -13);
        int[][] answers = {{-1, -2}, {0, 0}, {1, 1}, {2, 2}, {3, -12}, {10, -12}, {11, -2}};
        for (int[] a : answers) {
            e.apart("coinsBy(0, 1, 0, " + a[0] + ")", a[1]);
        }
        e.range("coinsBy(0, 1, $, 1)", 0, 3, -12, 1, 0, 0, 1);
        e.range("coinsBy(0, 1, $, 2)", 0, 0, -12, 2);
        e.is("coinsBy(0, 1, -1, 1)", -12);
        e.is("coinsBy(0, 1, 4, 1)", -12);
        e.is("coinsBy(0, 1, MAX, 10)", -12);
        e.has("0");
        e.is("coinsBy(0, 1, 0, 3)", -12);
        e.has("8");
        e.then("set(0, 0, 1) cell(0, 3, 9)");
        e.is("coinsBy(0, 1, 0, 10)", -12);
        e.has("7");
        e.is("coinsBy(0, 0, 99, 11)", -2);
        e.is("coinsBy(0, 3, 99, 1)", -2);
        e.is("coinsBy(1, 0, 99, 11)", -2);
        e.is("coinsBy(1, 0, 99, 1)", -11);
        e.is("coinsBy(0, 0, 99, 1)", -13);
        e.is("coinsBy(4, 1, 0, 1)", -2);
        row(0, 2, 0, 0, 3, 0, 0);
        e.is("coinsBy(0, 2, 0, 2)", -12);
        e.has("3");
        row(0, 2, 0, 0);
        e.is("coinsBy(0, 2, 0, 1)", -12);
        e.has("3");
    }

    private void taken() {
        e.promise(40, "What lies at place i: 0 .. 4 PURSES that have any COINS, 5 .. 10 SORTS");
        e.range("taken($, 0)", 0, 10, -12, -11, -11, -11, -11);
        e.town(SIX_PLAIN + "purse() purse() purse() purse() purse() set(4, 0, 1) set(0, 5, 99)");
        e.range("taken($, 6)", 0, 10, -12, 99, -11, -13, -13);
        e.range("taken($, 0)", 0, 10, -12, -13, -11, 4, 5);
        e.is("taken(3, 6)", -11);
        e.is("taken(4, 6)", 1);
        e.is("taken(4, 0)", -13);
        e.is("taken(5, 0)", 0);
        e.is("taken(5, 6)", -13);
        e.is("taken(6, 0)", 1);
        e.then("set(4, 0, 0)");
        e.is("taken(4, 6)", -11);
        e.town("sort(0, 1, 0) purse()");
        e.is("taken(0, 6)", -11);
        e.is("taken(1, 6)", -11);
        e.is("taken(5, 0)", 0);
        e.is("taken(6, 0)", -11);
    }

    private void takenRefusals() {
        e.promise(40, "taken for 0 .. 5 a SORT of that KIND (also of one that is one): its number; 6 a PURSE: how many COINS.");
        int[][] kinds = {{0}, {0, 1}, {0, 2}, {0, 1, 3}, {0, 2, 4}, {0, 5}};
        e.town("sort(0, 1, 0) sort(1, 1, 0) sort(2, 1, 0) sort(3, 1, 0) sort(4, 1, 0) sort(5, 1, 0) purse() set(0, 0, 99) set(0, 5, 99)");
        for (int s = 0; s < 6; s++) {
            for (int kind = 0; kind <= 6; kind++) {
                boolean is = false;
                for (int k : kinds[s]) {
                    is |= k == kind;
                }
                e.is("taken(" + (5 + s) + ", " + kind + ")", is ? s : -13);
            }
        }
        e.is("taken(0, 6)", 198);
        for (int kind = 0; kind < 6; kind++) {
            e.is("taken(0, " + kind + ")", -13);
        }
        e.promise(40, "BAD: kind; -12: i; -11: nothing lies there; -13.");
        e.town("sort(1, 1, 0) purse() purse() set(0, 0, 1)");
        e.range("taken(5, $)", 0, 6, -2, 0, 0, -13, -13);
        e.range("taken(0, $)", 0, 6, -2, -13, -13, -13, 1);
        e.range("taken($, 1)", 0, 10, -12, -13, -11, -11, -11);
        e.is("taken(11, 7)", -2);
        e.is("taken(-1, -1)", -2);
        e.is("taken(1, 7)", -2);
        e.is("taken(1, 0)", -11);
        e.is("taken(2, 0)", -11);
        e.is("taken(6, 6)", -11);
    }
}
