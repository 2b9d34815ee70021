/** Promises 36 to 40: sheet, cell, copy, coinsBy, taken. */
public final class HostTest {
    private static final Due DUE = new Due("HostTest");

    public static void main(String[] args) {
        sheet();
        cell();
        narrowCells();
        copy();
        copyRefusals();
        coinsBy();
        coinsByRefusals();
        taken();
        DUE.end();
    }

    /** A number of a sheet of ints, by way of coins of the first purse's first sort. */
    private static int read(UnlikeCoins x, int i) {
        x.sheet(3, 2, 3);
        x.copy(0, i, 3, 2, 1);
        x.set(0, 0, 77);
        return x.coinsBy(3, 2, 0, 1) == 1 ? x.of(0, 0) : -1;
    }

    private static UnlikeCoins town() {
        UnlikeCoins x = new UnlikeCoins();
        x.sort(0, 1, 1);
        x.sort(0, 1, 1);
        x.purse();
        x.purse();
        return x;
    }

    private static void sheet() {
        UnlikeCoins x = town();
        for (int s = 0; s < 4; s++) {
            DUE.is("36 missing at first", x.cell(s, 0, 0), -11);
            DUE.is("36 becomes a row", x.sheet(s, s % 3, 40), 1);
            DUE.is("36 the last of it", x.cell(s, 39, 1), 1);
            DUE.is("36 behind it", x.cell(s, 40, 1), -12);
        }
        DUE.is("36 of none", x.sheet(0, 2, 0), 1);
        DUE.is("36 none there", x.cell(0, 0, 0), -12);
        DUE.is("36 missing", x.sheet(0, -1, 99), 1);
        DUE.is("36 is missing", x.cell(0, 0, 0), -11);
        DUE.is("36 sheet below", x.sheet(-1, 0, 1), -2);
        DUE.is("36 sheet above", x.sheet(4, 0, 1), -2);
        DUE.is("36 sheet above, missing", x.sheet(4, -1, 1), -2);
        DUE.is("36 sort below", x.sheet(0, -2, 1), -2);
        DUE.is("36 sort above", x.sheet(0, 3, 1), -2);
        DUE.is("36 n above", x.sheet(0, 0, 41), -2);
        DUE.is("36 n below", x.sheet(0, 0, -1), -14);
        DUE.is("36 BAD ahead of it", x.sheet(0, 3, -1), -2);
        x.sheet(0, 2, 5);
        x.cell(0, 4, 9);
        x.sheet(0, 2, 5);
        DUE.is("36 all 0", read(x, 4), 0);
        DUE.is("36 refused", x.sheet(0, 2, -5), -14);
        DUE.is("36 changes nothing", x.cell(0, 4, 1), 1);
    }

    private static void cell() {
        UnlikeCoins x = town();
        x.sheet(0, 2, 3);
        DUE.is("37 becomes", x.cell(0, 1, 42), 1);
        DUE.is("37 that", read(x, 1), 42);
        DUE.is("37 no other", read(x, 0), 0);
        DUE.is("37 nor that", read(x, 2), 0);
        DUE.is("37 sheet below", x.cell(-1, 0, 0), -2);
        DUE.is("37 sheet above", x.cell(4, 0, 0), -2);
        DUE.is("37 missing", x.cell(1, -1, 0), -11);
        DUE.is("37 below", x.cell(0, -1, 0), -12);
        DUE.is("37 above", x.cell(0, 3, 0), -12);
        DUE.is("37 far above", x.cell(0, Integer.MAX_VALUE, 0), -12);
    }

    /** One coin is bought once at price 1: a row of one number tells it, if its lowest bits are 1. */
    private static void narrowCells() {
        UnlikeCoins x = town();
        x.set(0, 0, 1);
        int[] v = {1, 257, 65537, 513, 255};
        int[][] told = {{-1, -1, -1, -1, 1}, {-1, 1, -1, 1, 1}, {-1, 1, 1, 1, 1}};
        for (int sort = 0; sort < 3; sort++) {
            for (int i = 0; i < v.length; i++) {
                x.sheet(0, sort, 1);
                x.cell(0, 0, v[i]);
                DUE.is("37 " + v[i] + " of sort " + sort, x.judge(0, 0), told[sort][i]);
            }
        }
        x.set(0, 0, 99);
        x.set(0, 1, 99);
        x.sheet(0, 0, 1);
        x.cell(0, 0, 198);
        DUE.is("37 a byte has a sign", x.judge(0, 0), 1);
        x.sheet(0, 1, 1);
        x.cell(0, 0, 65536 + 198);
        DUE.is("37 a short", x.judge(0, 0), -1);
    }

    private static void numbers(UnlikeCoins x, int s, String want, String what) {
        StringBuilder got = new StringBuilder();
        x.sheet(3, 2, 3);
        for (int i = 0; x.copy(s, i, 3, 2, 1) == 1; i++) {
            x.coinsBy(3, 2, 0, 1);
            got.append(x.of(0, 0)).append(' ');
        }
        DUE.all(what, got.toString().trim(), want);
    }

    private static void copy() {
        UnlikeCoins x = town();
        Due.sheet(x, 0, 1, 2, 3, 4, 5);
        Due.sheet(x, 1, 11, 12, 13);
        DUE.is("38 two", x.copy(0, 3, 1, 1, 2), 2);
        numbers(x, 1, "11 4 5", "38 come");
        numbers(x, 0, "1 2 3 4 5", "38 stay");
        DUE.is("38 to its own, up", x.copy(0, 0, 0, 1, 4), 4);
        numbers(x, 0, "1 1 2 3 4", "38 as they were, up");
        DUE.is("38 to its own, down", x.copy(0, 1, 0, 0, 4), 4);
        numbers(x, 0, "1 2 3 4 4", "38 as they were, down");
        DUE.is("38 none", x.copy(0, 5, 1, 3, 0), 0);
        DUE.is("38 all", x.copy(1, 0, 0, 2, 3), 3);
        numbers(x, 0, "1 2 11 4 5", "38 all come");
    }

    private static void copyRefusals() {
        UnlikeCoins x = town();
        Due.sheet(x, 0, 1, 2, 3, 4, 5);
        Due.sheet(x, 1, 11, 12, 13);
        x.sheet(2, 0, 5);
        DUE.is("38 sheet below", x.copy(-1, 0, 0, 0, 1), -2);
        DUE.is("38 other above", x.copy(0, 0, 4, 0, 1), -2);
        DUE.is("38 BAD ahead of missing", x.copy(3, 0, 4, 0, 1), -2);
        DUE.is("38 missing", x.copy(3, 0, 0, 0, 1), -11);
        DUE.is("38 other missing, ahead of places", x.copy(0, -1, 3, 0, 1), -11);
        DUE.is("38 unlike, ahead of places", x.copy(0, -1, 2, 0, 1), -13);
        DUE.is("38 unlike", x.copy(2, 0, 0, 0, 0), -13);
        DUE.is("38 i below", x.copy(0, -1, 1, 0, 1), -12);
        DUE.is("38 j below", x.copy(0, 0, 1, -1, 1), -12);
        DUE.is("38 n below", x.copy(0, 0, 1, 0, -1), -12);
        DUE.is("38 behind", x.copy(0, 4, 1, 0, 2), -12);
        DUE.is("38 behind the other", x.copy(0, 0, 1, 0, 4), -12);
        DUE.is("38 none from outside", x.copy(0, 6, 1, 0, 0), -12);
        DUE.is("38 none to outside", x.copy(0, 0, 1, 4, 0), -12);
        DUE.is("38 far", x.copy(0, Integer.MAX_VALUE, 1, 0, 2), -12);
        DUE.is("38 many", x.copy(0, 2, 1, 1, Integer.MAX_VALUE), -12);
        numbers(x, 1, "11 12 13", "38 refusals change nothing");
    }

    private static void coinsBy() {
        UnlikeCoins x = town();
        Due.sheet(x, 0, 9, 0, 0, 5, 1, 1, 7, 2, 0, 1, 0, 1, 99, 0, 0, 100);
        DUE.is("39 from a place on, others are left out", x.coinsBy(0, 2, 1, 5), 3);
        DUE.all("39 the first purse", Due.has(x, 0), "5 99");
        DUE.all("39 the second purse", Due.has(x, 1), "0 7");
        DUE.is("39 none", x.coinsBy(0, 2, 1, 0), 0);
        DUE.is("39 none from outside", x.coinsBy(0, 2, -9, 0), 0);
        Due.sheet(x, 0, 0, 0, 8, 0, 1, 6, 1, 0);
        DUE.is("39 the third is outside", x.coinsBy(0, 2, 0, 3), -12);
        DUE.all("39 what stood ahead was set", Due.has(x, 0), "8 6");
        DUE.is("39 below", x.coinsBy(0, 2, -1, 1), -12);
        DUE.is("39 far below", x.coinsBy(0, 2, Integer.MIN_VALUE, 2), -12);
        DUE.is("39 far above", x.coinsBy(0, 2, Integer.MAX_VALUE, 2), -12);
        x.sheet(1, 0, 30);
        for (int i = 2; i < 30; i += 3) {
            x.cell(1, i, i);
        }
        DUE.is("39 ten, of bytes", x.coinsBy(1, 0, 0, 10), 10);
        DUE.all("39 the last of them", Due.has(x, 0), "29 6");
        Due.sheet(x, 0, -1, 0, 1, 0, -1, 1, 0, 0, -1);
        DUE.is("39 none is as of set()", x.coinsBy(0, 2, 0, 3), 0);
    }

    private static void coinsByRefusals() {
        UnlikeCoins x = town();
        x.sheet(0, 1, 3);
        DUE.is("39 sheet below", x.coinsBy(-1, 1, 0, 1), -2);
        DUE.is("39 sheet above", x.coinsBy(4, 1, 0, 1), -2);
        DUE.is("39 sort below", x.coinsBy(0, -1, 0, 1), -2);
        DUE.is("39 sort above", x.coinsBy(0, 3, 0, 1), -2);
        DUE.is("39 n below", x.coinsBy(0, 1, 0, -1), -2);
        DUE.is("39 n above", x.coinsBy(0, 1, 0, 11), -2);
        DUE.is("39 missing", x.coinsBy(1, 1, 0, 1), -11);
        DUE.is("39 BAD ahead of missing", x.coinsBy(1, 1, 0, 11), -2);
        DUE.is("39 of another sort", x.coinsBy(0, 0, 0, 1), -13);
        DUE.is("39 of another sort, ahead of the place", x.coinsBy(0, 2, 9, 1), -13);
        DUE.is("39 of this sort", x.coinsBy(0, 1, 0, 1), 1);
    }

    private static void taken() {
        UnlikeCoins x = new UnlikeCoins();
        boolean[][] is = {
            {true, false, false, false, false, false}, {true, true, false, false, false, false},
            {true, false, true, false, false, false}, {true, true, false, true, false, false},
            {true, false, true, false, true, false}, {true, false, false, false, false, true}};
        for (int s = 0; s < 6; s++) {
            DUE.is("40 no sort yet", x.taken(5 + s, 0), -11);
            x.sort(s, 1, 1);
        }
        for (int s = 0; s < 6; s++) {
            for (int kind = 0; kind < 6; kind++) {
                DUE.is("40 sort " + s + " as kind " + kind, x.taken(5 + s, kind), is[s][kind] ? s : -13);
            }
            DUE.is("40 a sort is no purse", x.taken(5 + s, 6), -13);
        }
        for (int p = 0; p < 5; p++) {
            DUE.is("40 no purse yet", x.taken(p, 6), -11);
            x.purse();
            DUE.is("40 it is empty", x.taken(p, 0), -11);
            x.set(p, p, 2);
            x.set(p, 5, p);
            DUE.is("40 coins", x.taken(p, 6), 2 + p);
            DUE.is("40 a purse is no sort", x.taken(p, p), -13);
        }
        DUE.is("40 kind below", x.taken(0, -1), -2);
        DUE.is("40 kind above, ahead of the place", x.taken(11, 7), -2);
        DUE.is("40 below", x.taken(-1, 0), -12);
        DUE.is("40 above", x.taken(11, 6), -12);
    }
}
