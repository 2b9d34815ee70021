/** Promises 21 to 24: lacks, thief, rob, wage. */
public final class LacksTest {
    private static final Due DUE = new Due("LacksTest");

    public static void main(String[] args) {
        lacks();
        thief();
        rob();
        wage();
        wageAtTheEdge();
        refusals();
        DUE.end();
    }

    private static UnlikeCoins town(int sorts) {
        UnlikeCoins x = new UnlikeCoins();
        for (int s = 0; s < sorts; s++) {
            x.sort(0, 1, 1);
        }
        return x;
    }

    private static void lacks() {
        UnlikeCoins x = town(2);
        DUE.is("21 no purses: the first", x.lacks(2, 0), 0);
        DUE.is("21 no purses: nothing", x.lacks(2, 1), 0);
        Due.purse(x, 2, 0);
        Due.purse(x, 3, 0);
        DUE.is("21 the second lacks", x.lacks(2, 0), 1);
        DUE.is("21 often then", x.lacks(2, 1), 2);
        DUE.is("21 of like ones the first", x.lacks(1, 0), 0);
        DUE.is("21 often at 1", x.lacks(1, 1), 7);
        DUE.all("21 changes nothing", Due.has(x, 0), "2 0");
        UnlikeCoins full = town(2);
        Due.purse(full, 99, 0);
        DUE.is("21 99 at most", full.lacks(1, 0), 1);
        DUE.is("21 a hundred coins", full.lacks(1, 1), 100);
        UnlikeCoins none = new UnlikeCoins();
        DUE.is("21 no sorts", none.lacks(1, 0), -1);
        DUE.is("21 no sorts, how many", none.lacks(12, 1), -1);
        DUE.is("21 BAD price ahead of it", none.lacks(0, 0), -2);
        DUE.is("21 BAD what ahead of it", none.lacks(1, 2), -2);
        DUE.is("21 price above", x.lacks(13, 0), -2);
        DUE.is("21 what below", x.lacks(1, -1), -2);
    }

    private static void thief() {
        UnlikeCoins x = town(2);
        Due.purse(x, 2, 1);
        Due.purse(x, 0, 1);
        x.purse();
        DUE.is("22 the second hurts", x.thief(0, 2, 0), 1);
        DUE.is("22 often then", x.thief(0, 2, 1), 0);
        DUE.is("22 of like ones the first", x.thief(0, 1, 0), 0);
        DUE.is("22 often at 1", x.thief(0, 1, 1), 2);
        DUE.is("22 of what it has", x.thief(1, 1, 0), 1);
        DUE.is("22 nothing then", x.thief(1, 1, 1), 0);
        DUE.is("22 empty", x.thief(2, 1, 0), -1);
        DUE.is("22 empty, that", x.thief(2, 1, 1), -1);
        DUE.is("22 price ahead of empty", x.thief(2, 0, 0), -7);
        DUE.all("22 changes nothing", Due.has(x, 0), "2 1");
        UnlikeCoins melting = new UnlikeCoins();
        melting.sort(5, 1, 1);
        melting.sort(0, 1, 1);
        Due.purse(melting, 6, 2);
        DUE.is("22 a loss that serves is not least", melting.thief(0, 1, 0), 1);
        DUE.is("22 one is left", melting.thief(0, 1, 1), 1);
    }

    private static void rob() {
        UnlikeCoins x = town(4);
        Due.purse(x, 1, 2, 0, 1);
        Due.purse(x, 1, 1, 1, 1);
        DUE.is("23 two are gone", x.rob(0), 2);
        DUE.all("23 truly", Due.has(x, 0), "0 2 0 0");
        DUE.all("23 of this purse alone", Due.has(x, 1), "1 1 1 1");
        DUE.is("23 none", x.rob(0), 0);
        DUE.is("23 all", x.rob(1), 4);
        DUE.is("23 no such purse", x.rob(2), -5);
        DUE.is("23 below", x.rob(-1), -5);
    }

    private static void wage() {
        UnlikeCoins x = town(3);
        Due.purse(x, 2, 0, 0);
        DUE.is("24 one", x.wage(0, 1, 2, 0), 2);
        DUE.is("24 one, often", x.wage(0, 1, 2, 1), 1);
        DUE.is("24 two", x.wage(0, 2, 2, 0), 22);
        DUE.is("24 two, often", x.wage(0, 2, 2, 1), 2);
        DUE.is("24 three sorts", x.wage(0, 2, 3, 0), 23);
        DUE.is("24 three sorts, often", x.wage(0, 2, 3, 1), 1);
        DUE.is("24 four at 3", x.wage(0, 4, 3, 0), 2233);
        DUE.is("24 four at 3, often", x.wage(0, 4, 3, 1), 2);
        DUE.is("24 all alike: the first", x.wage(0, 4, 1, 0), 1111);
        DUE.is("24 all alike, often", x.wage(0, 4, 1, 1), 6);
        DUE.is("24 n is 0", x.wage(0, 0, 1, 0), 0);
        DUE.is("24 n is 0, often", x.wage(0, 0, 1, 1), 2);
        DUE.all("24 changes nothing", Due.has(x, 0), "2 0 0");
        UnlikeCoins six = town(6);
        six.purse();
        DUE.is("24 one of each", six.wage(0, 4, 4, 0), 1234);
        DUE.is("24 of six", six.wage(0, 4, 4, 1), 1);
        Due.purse(six, 9, 9, 0, 0, 0, 0);
        DUE.is("24 four unlike ones", six.wage(1, 4, 6, 0), 3456);
    }

    private static void wageAtTheEdge() {
        UnlikeCoins x = town(1);
        Due.purse(x, 98);
        DUE.is("24 room for one", x.wage(0, 1, 1, 0), 1);
        DUE.is("24 99 coins", x.wage(0, 1, 1, 1), 99);
        DUE.is("24 no room for two", x.wage(0, 2, 1, 0), -1);
        DUE.is("24 no room for two, often", x.wage(0, 2, 1, 1), -1);
        UnlikeCoins y = town(2);
        Due.purse(y, 98, 98);
        DUE.is("24 one of each", y.wage(0, 2, 1, 0), 12);
        DUE.is("24 no more", y.wage(0, 3, 1, 0), -1);
        UnlikeCoins none = new UnlikeCoins();
        none.purse();
        DUE.is("24 no sorts", none.wage(0, 1, 1, 0), -1);
        DUE.is("24 no sorts, n is 0", none.wage(0, 0, 1, 0), 0);
        DUE.is("24 no sorts, n is 0, often", none.wage(0, 0, 1, 1), 0);
        DUE.is("24 price ahead of no way", none.wage(0, 1, 13, 0), -7);
    }

    private static void refusals() {
        UnlikeCoins x = town(1);
        x.purse();
        DUE.is("22 no such purse ahead of the rest", x.thief(1, 0, 9), -5);
        DUE.is("22 below", x.thief(-1, 1, 0), -5);
        DUE.is("22 price above", x.thief(0, 13, 0), -7);
        DUE.is("22 what below", x.thief(0, 1, -1), -7);
        DUE.is("22 what above", x.thief(0, 1, 2), -7);
        DUE.is("24 no such purse ahead of the rest", x.wage(1, 9, 0, 9), -5);
        DUE.is("24 below", x.wage(-1, 1, 1, 0), -5);
        DUE.is("24 n below", x.wage(0, -1, 1, 0), -7);
        DUE.is("24 n above", x.wage(0, 5, 1, 0), -7);
        DUE.is("24 price below", x.wage(0, 1, 0, 0), -7);
        DUE.is("24 what below", x.wage(0, 1, 1, -1), -7);
        DUE.is("24 what above", x.wage(0, 1, 1, 2), -7);
    }
}
