/** Promises 19 and 20: swap, best. */
public final class SwapsTest {
    private static final Due DUE = new Due("SwapsTest");

    public static void main(String[] args) {
        swap();
        fee();
        swapRefusals();
        best();
        leastFee();
        bestRefusals();
        DUE.end();
    }

    private static UnlikeCoins town(int... more) {
        UnlikeCoins x = new UnlikeCoins();
        for (int m : more) {
            x.sort(0, 10 + m, m);
        }
        return x;
    }

    private static void swap() {
        UnlikeCoins x = town(0, 0, 0);
        Due.purse(x, 3, 0, 1);
        Due.purse(x, 1, 98, 4);
        DUE.is("19 the fee", x.swap(0, 1, 2), 1);
        DUE.all("19 gives", Due.has(x, 0), "2 0 2");
        DUE.all("19 gets", Due.has(x, 1), "2 98 3");
        DUE.is("19 of the first", x.swap(1, 0, 10), 1);
        DUE.all("19 got 0", Due.has(x, 0), "1 1 2");
        DUE.all("19 gave 1", Due.has(x, 1), "3 97 3");
    }

    private static void fee() {
        UnlikeCoins x = town(3, 5);
        Due.purse(x, 9, 9);
        Due.purse(x, 9, 9);
        x.force(Due.text(x, "worth 1;fee told;wage 1;"));
        DUE.is("19 told of the given", x.swap(0, 1, 1), 13);
        DUE.is("19 told of the other", x.swap(0, 1, 10), 15);
        x.force(Due.text(x, "worth 1;fee more;wage 1;"));
        DUE.is("19 more of the got", x.swap(0, 1, 1), 5);
        DUE.is("19 more of the other", x.swap(0, 1, 10), 3);
        x.force(Due.text(x, "worth 1;fee number*7+many+price;wage 1;"));
        DUE.is("19 number of the given", x.swap(0, 1, 10), 7);
        DUE.is("19 number of the first", x.swap(0, 1, 1), 0);
        x.pass();
        x.force(Due.text(x, "worth 1;fee year*200;wage 1;"));
        DUE.is("19 in bounds, by the year", x.swap(0, 1, 10), 99);
    }

    private static void swapRefusals() {
        UnlikeCoins x = town(0, 0);
        Due.purse(x, 1, 0);
        Due.purse(x, 0, 1);
        DUE.is("19 alike", x.swap(0, 0, 1), -5);
        DUE.is("19 p below", x.swap(-1, 0, 1), -5);
        DUE.is("19 q above ahead of the sorts", x.swap(0, 2, 99), -5);
        DUE.is("19 sorts alike", x.swap(0, 1, 11), -7);
        DUE.is("19 no such given", x.swap(0, 1, 20), -7);
        DUE.is("19 no such got", x.swap(0, 1, 2), -7);
        DUE.is("19 below", x.swap(0, 1, -1), -7);
        DUE.is("19 far below", x.swap(0, 1, -10), -7);
        DUE.is("19 far above", x.swap(0, 1, 100), -7);
        DUE.is("19 p has none of it", x.swap(0, 1, 10), -3);
        x.set(1, 1, 0);
        DUE.is("19 q has none of it", x.swap(0, 1, 1), -3);
        x.set(1, 1, 1);
        x.set(0, 1, 99);
        DUE.is("19 p has no room", x.swap(0, 1, 1), -3);
        x.set(0, 1, 98);
        x.set(1, 0, 99);
        DUE.is("19 q has no room", x.swap(0, 1, 1), -3);
        DUE.all("19 p stays", Due.has(x, 0), "1 98");
        DUE.all("19 q stays", Due.has(x, 1), "99 1");
        x.set(1, 0, 98);
        DUE.is("19 just room", x.swap(0, 1, 1), 1);
        DUE.all("19 p is full", Due.has(x, 0), "0 99");
        DUE.all("19 q is full", Due.has(x, 1), "99 0");
    }

    private static void best() {
        UnlikeCoins x = town(0, 0);
        Due.purse(x, 2, 0);
        Due.purse(x, 0, 2);
        DUE.is("20 gives 0 for 1", x.best(0, 1, 2, 0), 1);
        DUE.is("20 often then", x.best(0, 1, 2, 1), 2);
        DUE.is("20 the other way", x.best(1, 0, 2, 0), 10);
        DUE.is("20 none", x.best(0, 1, 1, 0), -1);
        DUE.is("20 as now", x.best(0, 1, 1, 1), 4);
        DUE.is("20 none at 3", x.best(0, 1, 3, 0), -1);
        DUE.is("20 nothing at 3", x.best(0, 1, 3, 1), 0);
        DUE.all("20 changes nothing", Due.has(x, 0), "2 0");
        UnlikeCoins full = town(0, 0, 0);
        Due.purse(full, 3, 0, 0);
        Due.purse(full, 99, 3, 99);
        DUE.is("20 no room for what would be more", full.best(0, 1, 2, 0), -1);
        DUE.is("20 as now there", full.best(0, 1, 2, 1), 100);
        full.set(1, 0, 98);
        DUE.is("20 room", full.best(0, 1, 2, 0), 1);
        DUE.is("20 more there", full.best(0, 1, 2, 1), 101);
    }

    private static void leastFee() {
        UnlikeCoins x = town(0, 5, 3);
        Due.purse(x, 2, 0, 0);
        Due.purse(x, 0, 2, 2);
        DUE.is("20 often now", x.often(0, 2, 0) + x.often(1, 2, 0), 2);
        DUE.is("20 of like fees the first", x.best(0, 1, 2, 0), 1);
        x.force(Due.text(x, "worth 1;fee more;wage 1;"));
        DUE.is("20 the least fee", x.best(0, 1, 2, 0), 2);
        DUE.is("20 often then", x.best(0, 1, 2, 1), 3);
        x.force(Due.text(x, "worth 1;fee 9-more;wage 1;"));
        DUE.is("20 the least fee is the first", x.best(0, 1, 2, 0), 1);
    }

    private static void bestRefusals() {
        UnlikeCoins x = town(0, 0);
        x.purse();
        x.purse();
        DUE.is("20 alike", x.best(1, 1, 0, 9), -5);
        DUE.is("20 no such p", x.best(2, 1, 1, 0), -5);
        DUE.is("20 no such q", x.best(1, -1, 1, 0), -5);
        DUE.is("20 price below", x.best(0, 1, 0, 0), -7);
        DUE.is("20 price above", x.best(0, 1, 13, 0), -7);
        DUE.is("20 what below", x.best(0, 1, 1, -1), -7);
        DUE.is("20 what above", x.best(0, 1, 1, 2), -7);
        DUE.is("20 none of empty ones", x.best(0, 1, 1, 0), -1);
    }
}
