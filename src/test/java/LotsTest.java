/**
 * Promises 32 to 35: drawn, mean, image, back. The lots of SEED 0 are 48271, 182605794, 1291394886,
 * 1914720637, 2078669041, 407355683: so purses by 48271, 1291394886, .. and prices 1, 2, 6, 6, 6.
 */
public final class LotsTest {
    private static final Due DUE = new Due("LotsTest");

    public static void main(String[] args) {
        drawn();
        mean();
        image();
        imageAgain();
        whatAnImageDoesNotKeep();
        DUE.end();
    }

    private static UnlikeCoins town(int kind) {
        UnlikeCoins x = new UnlikeCoins();
        x.sort(kind, 1, 9);
        return x;
    }

    private static void drawn() {
        UnlikeCoins x = town(0);
        DUE.is("32 without purses", x.drawn(0, 40), 0);
        Due.purse(x, 2);
        DUE.is("32 no lot", x.drawn(0, 0), 0);
        DUE.is("32 one", x.drawn(0, 1), 1);
        DUE.is("32 two can't lie together", x.drawn(0, 2), 1);
        DUE.all("32 in thought", Due.has(x, 0), "2");
        UnlikeCoins y = town(1);
        Due.purse(y, 3);
        DUE.is("32 one, then two", y.drawn(0, 2), 2);
        DUE.is("32 then none is left", y.drawn(0, 5), 2);
        y.set(0, 0, 2);
        DUE.is("32 one is gone then", y.drawn(0, 2), 1);
        UnlikeCoins two = town(1);
        Due.purse(two, 0);
        Due.purse(two, 1);
        DUE.is("32 the second purse first", two.drawn(0, 1), 1);
        two.set(0, 0, 2);
        two.set(1, 0, 0);
        DUE.is("32 not the first", two.drawn(0, 1), 0);
        DUE.is("32 the first then", two.drawn(0, 2), 1);
        DUE.is("32 seed below", x.drawn(-1, 1), -2);
        DUE.is("32 seed above", x.drawn(100000, 1), -2);
        DUE.is("32 n below", x.drawn(0, -1), -2);
        DUE.is("32 n above", x.drawn(0, 41), -2);
        DUE.is("32 BAD without purses", new UnlikeCoins().drawn(0, 41), -2);
        DUE.is("32 the last seed", y.drawn(99999, 0), 0);
    }

    /** By n 1 and one plain coin, the seeds 0 .. 10 draw price 1, the seeds 11 .. 13 price 6. */
    private static void mean() {
        UnlikeCoins x = town(0);
        DUE.is("33 without purses", x.mean(0, 3, 4, 0), 0);
        DUE.is("33 without purses, below", x.mean(0, 3, 4, 1), 1);
        Due.purse(x, 1);
        DUE.is("33 one", x.mean(0, 11, 1, 0), 1);
        DUE.is("33 one, below", x.mean(0, 11, 1, 1), 1);
        DUE.is("33 of just one", x.mean(0, 1, 1, 0), 1);
        DUE.is("33 of just five", x.mean(0, 5, 1, 0), 1);
        DUE.is("33 of twelve", x.mean(0, 12, 1, 0), 11);
        DUE.is("33 of twelve, below", x.mean(0, 12, 1, 1), 12);
        DUE.is("33 lowest terms", x.mean(9, 4, 1, 0), 1);
        DUE.is("33 lowest terms, below", x.mean(9, 4, 1, 1), 2);
        DUE.is("33 none", x.mean(11, 3, 1, 0), 0);
        DUE.is("33 none, below", x.mean(11, 3, 1, 1), 1);
        DUE.is("33 seeds behind the last", x.mean(99999, 20, 0, 1), 1);
        DUE.is("33 twenty", x.mean(0, 20, 40, 1) > 0 ? 1 : 0, 1);
        DUE.is("33 seed below", x.mean(-1, 1, 1, 0), UnlikeCoins.NO);
        DUE.is("33 seed above", x.mean(100000, 1, 1, 0), UnlikeCoins.NO);
        DUE.is("33 seeds below", x.mean(0, 0, 1, 0), UnlikeCoins.NO);
        DUE.is("33 seeds above", x.mean(0, 21, 1, 0), UnlikeCoins.NO);
        DUE.is("33 n below", x.mean(0, 1, -1, 0), UnlikeCoins.NO);
        DUE.is("33 n above", x.mean(0, 1, 41, 0), UnlikeCoins.NO);
        DUE.is("33 part below", x.mean(0, 1, 1, -1), UnlikeCoins.NO);
        DUE.is("33 part above", x.mean(0, 1, 1, 2), UnlikeCoins.NO);
    }

    private static void image() {
        UnlikeCoins x = town(0);
        Due.purse(x, 5);
        Due.purse(x, 6);
        Due.text(x, "worth 1;fee 1;wage 1;");
        DUE.is("35 there is none", x.back(), -3);
        DUE.is("34 how many purses", x.image(), 2);
        x.sort(3, 1, 1);
        Due.purse(x, 7, 8);
        x.set(0, 0, 1);
        x.set(0, 1, 2);
        x.force(1);
        x.pass();
        DUE.is("35 how many there are", x.back(), 2);
        DUE.is("35 sorts", x.count(0), 1);
        DUE.is("35 purses", x.count(1), 2);
        DUE.is("35 the year", x.count(2), 0);
        DUE.is("35 the law", x.count(4), 0);
        DUE.all("35 the first", Due.has(x, 0), "5");
        DUE.all("35 the second", Due.has(x, 1), "6");
        DUE.is("35 no such purse", x.of(2, 0), -5);
        DUE.is("35 no such sort", x.told(1, 0), -5);
        DUE.is("35 another purse", x.purse(), 2);
        DUE.is("35 another sort", x.sort(4, 2, 2), 1);
        DUE.is("35 of its own kind", x.told(1, 0), 4);
        DUE.all("35 the first has none of it", Due.has(x, 0), "5 0");
        DUE.all("35 the purse is empty", Due.has(x, 2), "0 0");
    }

    private static void imageAgain() {
        UnlikeCoins x = town(0);
        DUE.is("34 no purses", x.image(), 0);
        Due.purse(x, 5);
        DUE.is("35 none came since", x.back(), 0);
        DUE.is("35 gone", x.of(0, 0), -5);
        Due.purse(x, 3);
        DUE.is("34 a new image", x.image(), 1);
        x.set(0, 0, 9);
        x.back();
        DUE.is("35 by the new one", x.of(0, 0), 3);
        x.pass();
        Due.text(x, "worth 1;fee 1;wage 1;");
        x.force(1);
        x.image();
        x.pass();
        x.force(0);
        x.back();
        DUE.is("35 the year then", x.count(2), 1);
        DUE.is("35 the law then", x.count(4), 1);
        x.set(0, 0, 3);
        x.image();
        x.set(0, 0, 8);
        DUE.is("35 again", x.back(), 1);
        DUE.is("35 as it was", x.of(0, 0), 3);
        x.purse();
        x.purse();
        x.purse();
        x.purse();
        x.image();
        DUE.is("34 five", x.image(), 5);
        DUE.is("35 five", x.back(), 5);
    }

    private static void whatAnImageDoesNotKeep() {
        UnlikeCoins x = town(0);
        x.image();
        Due.text(x, "worth 1;fee 1;wage 1;");
        Due.tape(x, "abc");
        Due.sheet(x, 2, 0);
        x.back();
        DUE.is("35 texts stay", x.count(3), 2);
        DUE.is("35 the tape stays", x.count(5), 3);
        DUE.is("35 sheets stay", x.cell(2, 0, 1), 1);
    }
}
