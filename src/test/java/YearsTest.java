/** Promises 25 and 26: strike, pass. */
public final class YearsTest {
    private static final Due DUE = new Due("YearsTest");

    public static void main(String[] args) {
        strike();
        pass();
        leftOfKinds();
        wages();
        lastYear();
        DUE.end();
    }

    private static void strike() {
        UnlikeCoins x = new UnlikeCoins();
        x.sort(0, 1, 1);
        x.sort(5, 1, 1);
        Due.purse(x, 4, 0);
        Due.purse(x, 90, 1);
        Due.purse(x, 99, 2);
        DUE.is("25 together", x.strike(0, 20), 29);
        DUE.all("25 all came", Due.has(x, 0), "24 0");
        DUE.all("25 some came", Due.has(x, 1), "99 1");
        DUE.all("25 none came", Due.has(x, 2), "99 2");
        DUE.is("25 of another", x.strike(1, 3), 9);
        DUE.is("25 none", x.strike(1, 0), 0);
        DUE.is("25 n below", x.strike(0, -1), -7);
        DUE.is("25 n above", x.strike(0, 21), -7);
        DUE.is("25 sort below", x.strike(-1, 0), -5);
        DUE.is("25 no such sort ahead of n", x.strike(2, 21), -5);
        DUE.all("25 refusals change nothing", Due.has(x, 0), "24 3");
        UnlikeCoins none = new UnlikeCoins();
        none.sort(0, 0, 0);
        DUE.is("25 no purses", none.strike(0, 20), 0);
    }

    private static void pass() {
        UnlikeCoins x = new UnlikeCoins();
        DUE.is("26 nobody", x.pass(), 0);
        DUE.is("26 a year", x.count(2), 1);
        x.sort(0, 1, 1);
        x.sort(4, 1, 1);
        Due.purse(x, 3, 3);
        Due.purse(x, 99, 99);
        DUE.is("26 all coins", x.pass(), 4 + 3 + 99 + 99);
        DUE.all("26 the first", Due.has(x, 0), "4 3");
        DUE.all("26 99 at most", Due.has(x, 1), "99 99");
        DUE.is("26 another year", x.count(2), 2);
    }

    private static void left(int kind, int more, int many, int left) {
        UnlikeCoins x = new UnlikeCoins();
        x.force(Due.text(x, "worth 1;fee 1;wage 0;"));
        x.sort(kind, 1, more);
        Due.purse(x, many);
        DUE.is("26 kind " + kind + " more " + more + " many " + many, x.pass(), left);
    }

    private static void leftOfKinds() {
        for (int kind = 0; kind < 4; kind++) {
            left(kind, 5, 7, 7);
            left(kind, 5, 0, 0);
        }
        left(4, 5, 7, 6);
        left(4, 5, 1, 0);
        left(4, 5, 0, 0);
        left(5, 0, 99, 99);
        left(5, 9, 99, 0);
        left(5, 4, 7, 3);
        left(5, 8, 8, 0);
        left(5, 8, 9, 1);
        left(5, 1, 9, 8);
        left(5, 1, 99, 88);
    }

    /** What a purse with 5 of a GILT (40, 6), number 1, has by a wage. */
    private static void wage(String wage, int want) {
        UnlikeCoins x = new UnlikeCoins();
        x.force(Due.text(x, "worth 1;fee 1;wage " + wage + ";"));
        x.sort(0, 0, 0);
        x.sort(4, 40, 6);
        Due.purse(x, 0, 5);
        x.pass();
        DUE.is("26 wage " + wage, x.of(0, 1), want);
    }

    private static void wages() {
        wage("0", 4);
        wage("told-35", 9);
        wage("more", 10);
        wage("many", 8);
        wage("number", 5);
        wage("year", 5);
        wage("price", 4);
        wage("told", 13);
        wage("0-3", 4);
        UnlikeCoins x = new UnlikeCoins();
        x.force(Due.text(x, "worth 1;fee 1;wage (number=0)*9+(many=90)*2;"));
        x.sort(0, 0, 0);
        x.sort(0, 0, 0);
        Due.purse(x, 91, 90);
        DUE.is("26 by sorts", x.pass(), 99 + 92);
    }

    private static void lastYear() {
        UnlikeCoins x = new UnlikeCoins();
        x.sort(0, 0, 0);
        Due.purse(x, 0);
        x.force(Due.text(x, "worth 1;fee 1;wage year=99;"));
        for (int y = 1; y <= 98; y++) {
            DUE.is("26 no wage yet", x.pass(), 0);
        }
        DUE.is("26 the last year", x.pass(), 1);
        DUE.is("26 99", x.count(2), 99);
        DUE.is("26 passes again", x.pass(), 2);
        DUE.is("26 99 at most", x.count(2), 99);
    }
}
