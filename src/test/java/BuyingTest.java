/** Promises 13 to 18: often, buy, two, price, idle, dearest. */
public final class BuyingTest {
    private static final Due DUE = new Due("BuyingTest");

    public static void main(String[] args) {
        often();
        together();
        buy();
        plentyFirst();
        two();
        price();
        idleAndDearest();
        refusals();
        DUE.end();
    }

    /** A sort of which 1 may lie together, one of which 2 may; a purse that has 3 and 2. */
    private static UnlikeCoins town() {
        UnlikeCoins x = new UnlikeCoins();
        x.sort(0, 4, 0);
        x.sort(1, 4, 0);
        Due.purse(x, 3, 2);
        return x;
    }

    private static void often() {
        UnlikeCoins x = town();
        int[] times = {5, 2, 1, 0};
        int[] left = {0, 1, 2, 5};
        int[] idle = {0, 1, 1, 3};
        for (int k = 1; k <= 12; k++) {
            int i = Math.min(k, 4) - 1;
            DUE.is("13 often at " + k, x.often(0, k, 0), times[i]);
            DUE.is("13 left at " + k, x.often(0, k, 1), left[i]);
            DUE.is("13 worth at " + k, x.often(0, k, 2), times[i] * 2 * k);
            DUE.is("17 idle at " + k, x.idle(0, k), idle[i]);
        }
        DUE.all("13 changes nothing", Due.has(x, 0), "3 2");
        x.force(Due.text(x, "worth price*50+year+told+many+more+number;fee 1;wage 1;"));
        DUE.is("13 worth by the law", x.often(0, 1, 2), 250);
        DUE.is("13 worth in bounds", x.often(0, 2, 2), 198);
        x.pass();
        x.set(0, 0, 3);
        x.set(0, 1, 2);
        DUE.is("13 worth by the year", x.often(0, 1, 2), 255);
    }

    private static void kind(int kind, int more, int many, int price, int times) {
        UnlikeCoins x = new UnlikeCoins();
        x.sort(kind, 1, more);
        Due.purse(x, many);
        DUE.is("13 kind " + kind + " more " + more + " many " + many + " price " + price, x.often(0, price, 0), times);
    }

    private static void together() {
        for (int kind = 0; kind < 6; kind++) {
            kind(kind, 3, 5, 1, 5);
            kind(kind, 9, 5, 3, 0);
        }
        kind(0, 0, 9, 2, 0);
        kind(2, 0, 9, 2, 0);
        kind(4, 0, 9, 2, 0);
        kind(1, 0, 9, 2, 4);
        kind(1, 0, 9, 3, 0);
        kind(3, 3, 3, 3, 0);
        kind(3, 3, 4, 3, 1);
        kind(3, 3, 6, 3, 1);
        kind(3, 3, 7, 3, 2);
        kind(3, 0, 9, 4, 0);
        kind(3, 9, 9, 2, 4);
        kind(5, 0, 6, 1, 0);
        kind(5, 9, 99, 1, 0);
        kind(5, 0, 5, 2, 0);
    }

    private static void buy() {
        UnlikeCoins x = town();
        DUE.is("14 of both", x.buy(0, 2), 3);
        DUE.all("14 truly", Due.has(x, 0), "2 1");
        DUE.is("14 of both again", x.buy(0, 2), 3);
        DUE.is("14 it can't", x.buy(0, 2), -3);
        DUE.all("14 then none is laid", Due.has(x, 0), "1 0");
        DUE.is("14 one", x.buy(0, 1), 1);
        DUE.is("14 empty", x.buy(0, 1), -3);
    }

    private static void plentyFirst() {
        UnlikeCoins x = new UnlikeCoins();
        x.sort(1, 0, 0);
        x.sort(1, 0, 0);
        Due.purse(x, 1, 1);
        Due.purse(x, 1, 5);
        Due.purse(x, 2, 3);
        Due.purse(x, 3, 2);
        DUE.is("14 of like ones the first", x.buy(0, 1), 1);
        DUE.all("14 the first is gone", Due.has(x, 0), "0 1");
        DUE.is("14 the most plentiful", x.buy(1, 1), 2);
        DUE.is("14 most are left now", x.buy(2, 2), 3);
        DUE.all("14 one of each", Due.has(x, 2), "1 2");
        DUE.is("14 twice the first", x.buy(3, 2), 1);
        DUE.all("14 two of the first", Due.has(x, 3), "1 2");
    }

    private static void two() {
        UnlikeCoins x = town();
        DUE.is("15 n, all alike", x.two(0, 2, 1, 0), 0);
        DUE.is("15 that, all alike", x.two(0, 2, 1, 1), 10);
        DUE.is("15 n none", x.two(0, 3, 2, 0), 0);
        DUE.is("15 that none", x.two(0, 3, 2, 1), 8);
        x.force(Due.text(x, "worth price*price;fee 1;wage 1;"));
        DUE.is("15 n all", x.two(0, 2, 1, 0), 2);
        DUE.is("15 that all", x.two(0, 2, 1, 1), 9);
        DUE.is("15 n one", x.two(0, 3, 1, 0), 1);
        DUE.is("15 that one", x.two(0, 3, 1, 1), 11);
        DUE.is("15 neither", x.two(0, 12, 11, 1), 0);
        x.force(Due.text(x, "worth (price=2)*3+(price=1)*2;fee 1;wage 1;"));
        DUE.is("15 n in between", x.two(0, 2, 1, 1), 10);
        x.force(Due.text(x, "worth 0;fee 1;wage 1;"));
        DUE.is("15 n of nothing", x.two(0, 2, 1, 0), 0);
        DUE.is("15 nothing", x.two(0, 2, 1, 1), 0);
        DUE.all("15 changes nothing", Due.has(x, 0), "3 2");
        UnlikeCoins rich = new UnlikeCoins();
        for (int s = 0; s < 6; s++) {
            rich.sort(1, 1, 1);
        }
        Due.purse(rich, 99, 99, 99, 99, 99, 99);
        rich.force(Due.text(rich, "worth price*price;fee 1;wage 1;"));
        DUE.is("15 n as far as can be", rich.two(0, 2, 1, 0), 297);
        DUE.is("15 that as far as can be", rich.two(0, 2, 1, 1), 4 * 297);
        DUE.is("13 all one by one", rich.often(0, 1, 0), 594);
    }

    private static void price() {
        UnlikeCoins x = town();
        Due.purse(x, 1, 1);
        DUE.is("16 the price", x.price(0), 1);
        DUE.is("16 the product", x.price(1), 7);
        DUE.is("16 often of all", x.price(2), 7);
        DUE.is("16 what below", x.price(-1), -2);
        DUE.is("16 what above", x.price(3), -2);
        UnlikeCoins none = new UnlikeCoins();
        DUE.is("16 without purses", none.price(0), 1);
        DUE.is("16 without purses, that", none.price(1), 0);
        UnlikeCoins melting = new UnlikeCoins();
        melting.sort(5, 1, 1);
        melting.sort(0, 1, 1);
        Due.purse(melting, 6, 2);
        Due.purse(melting, 5, 2);
        DUE.is("16 what melts is not laid", melting.price(2), 9);
    }

    private static void idleAndDearest() {
        UnlikeCoins x = town();
        int[] dearest = {3, 2, 1, 1, 1, 0, 0};
        for (int n = 1; n <= 7; n++) {
            DUE.is("18 dearest " + n, x.dearest(0, n), dearest[n - 1]);
        }
        DUE.is("18 99", x.dearest(0, 99), 0);
        UnlikeCoins y = new UnlikeCoins();
        for (int s = 0; s < 6; s++) {
            y.sort(1, 1, 1);
        }
        Due.purse(y, 3, 2, 2, 2, 2, 2);
        DUE.is("18 twelve", y.dearest(0, 1), 12);
        DUE.is("17 one of them is left", y.idle(0, 12), 1);
        DUE.is("17 none is left", y.idle(0, 1), 0);
    }

    private static void refusals() {
        UnlikeCoins x = town();
        int[] noPurse = {-1, 1, 5};
        for (int p : noPurse) {
            DUE.is("13 no such purse ahead of the rest", x.often(p, 0, 9), -5);
            DUE.is("14 no such purse", x.buy(p, 0), -5);
            DUE.is("15 no such purse", x.two(p, 1, 2, 9), -5);
            DUE.is("17 no such purse", x.idle(p, 0), -5);
            DUE.is("18 no such purse", x.dearest(p, 0), -5);
        }
        int[] noPrice = {-1, 0, 13};
        for (int k : noPrice) {
            DUE.is("13 no price", x.often(0, k, 0), -7);
            DUE.is("14 no price", x.buy(0, k), -7);
            DUE.is("15 no price j", x.two(0, k, 1, 0), -7);
            DUE.is("15 no price k", x.two(0, 12, k, 0), -7);
            DUE.is("17 no price", x.idle(0, k), -7);
        }
        DUE.is("13 what below", x.often(0, 1, -1), -7);
        DUE.is("13 what above", x.often(0, 1, 3), -7);
        DUE.is("15 alike", x.two(0, 3, 3, 0), -7);
        DUE.is("15 j not greater", x.two(0, 2, 3, 0), -7);
        DUE.is("15 what below", x.two(0, 3, 2, -1), -7);
        DUE.is("15 what above", x.two(0, 3, 2, 2), -7);
        DUE.is("18 n below", x.dearest(0, 0), -7);
        DUE.is("18 n above", x.dearest(0, 100), -7);
    }
}
