/** Promises 27 to 31: judge, whose, was, film, laws. */
public final class StoriesTest {
    private static final Due DUE = new Due("StoriesTest");

    public static void main(String[] args) {
        judge();
        whose();
        was();
        film();
        laws();
        sheetsThatCannotTell();
        DUE.end();
    }

    /** Purse 0 has 3 and 2 (often 5, 2, 1, 0 ..), purse 1 is empty, purse 2 has 2 and 3. */
    private static UnlikeCoins town() {
        UnlikeCoins x = new UnlikeCoins();
        x.sort(0, 4, 0);
        x.sort(1, 4, 0);
        Due.purse(x, 3, 2);
        Due.purse(x, 0, 0);
        Due.purse(x, 2, 3);
        return x;
    }

    private static void judge() {
        UnlikeCoins x = town();
        Due.sheet(x, 0, 5, 2, 1, 0, 0, 0, 0, 0, 0, 0, 0, 0);
        DUE.is("27 all as told", x.judge(0, 0), -1);
        Due.sheet(x, 1, 5, 2, 0);
        DUE.is("27 otherwise at 3", x.judge(1, 0), 3);
        Due.sheet(x, 1, 4, 2, 0);
        DUE.is("27 the first", x.judge(1, 0), 1);
        Due.sheet(x, 1);
        DUE.is("27 tells nothing", x.judge(1, 0), -1);
        x.sheet(2, 0, 2);
        x.cell(2, 0, 5 + 256);
        x.cell(2, 1, 2);
        DUE.is("27 by bytes", x.judge(2, 0), -1);
        x.sheet(2, 1, 12);
        x.cell(2, 0, 5);
        x.cell(2, 1, 2);
        x.cell(2, 2, 1);
        x.cell(2, 11, 1);
        DUE.is("27 by shorts", x.judge(2, 0), 12);
        DUE.is("27 purse below", x.judge(0, -1), -5);
        DUE.is("27 purse above", x.judge(0, 3), -5);
    }

    private static void whose() {
        UnlikeCoins x = town();
        Due.sheet(x, 0, 5);
        DUE.is("28 two of them", x.whose(0), 5);
        Due.sheet(x, 0, 5, 2, 2);
        DUE.is("28 none", x.whose(0), 0);
        Due.sheet(x, 0, 5, 2, 1);
        DUE.is("28 both are so", x.whose(0), 5);
        Due.sheet(x, 0, 0, 0);
        DUE.is("28 the empty one", x.whose(0), 2);
        Due.sheet(x, 0);
        DUE.is("28 all", x.whose(0), 7);
        UnlikeCoins none = new UnlikeCoins();
        Due.sheet(none, 0);
        DUE.is("28 no purses", none.whose(0), 0);
    }

    private static void could(UnlikeCoins x, int many, int first, int... story) {
        Due.sheet(x, 0, story);
        DUE.is("29 how many, story of " + story.length, x.was(0, 0), many);
        DUE.is("29 the first, story of " + story.length, x.was(0, 1), first);
    }

    private static void was() {
        UnlikeCoins x = new UnlikeCoins();
        x.sort(0, 0, 0);
        x.sort(0, 0, 0);
        could(x, 16, 0);
        could(x, 2, 1, 1);
        could(x, 3, 2, 2);
        could(x, 1, 11, 2, 1);
        could(x, 2, 2, 2, 0);
        could(x, 0, -1, 7);
        could(x, 1, 33, 6, 3);
        could(x, 2, 12, 3, 1);
        DUE.is("29 what below", x.was(0, -1), -7);
        DUE.is("29 what above", x.was(0, 2), -7);
        UnlikeCoins none = new UnlikeCoins();
        could(none, 1, 0);
        could(none, 1, 0, 0, 0);
        could(none, 0, -1, 1);
        UnlikeCoins six = new UnlikeCoins();
        for (int s = 0; s < 6; s++) {
            six.sort(0, 0, 0);
        }
        could(six, 4096, 0);
        could(six, 6, 1, 1);
        could(six, 1, 333333, 18);
        could(six, 1, 111111, 6, 3, 2, 1, 1, 1);
    }

    private static void film() {
        UnlikeCoins x = town();
        x.sheet(1, 0, 3);
        DUE.is("30 twelve", x.film(0, 0, 12), 12);
        DUE.is("30 tells it all", x.judge(0, 0), -1);
        DUE.is("30 not of another", x.judge(0, 1), 1);
        DUE.is("30 twelve, no more", x.cell(0, 12, 0), -12);
        DUE.is("30 fewer", x.film(1, 0, 2), 2);
        DUE.is("30 two, no more", x.cell(1, 2, 0), -12);
        Due.sheet(x, 2, 7);
        DUE.is("30 ints", x.copy(1, 0, 2, 0, 1), 1);
        DUE.is("30 none", x.film(1, 1, 0), 0);
        DUE.is("30 a row of none", x.cell(1, 0, 0), -12);
        DUE.is("30 sheet below", x.film(-1, 9, 99), -2);
        DUE.is("30 sheet above", x.film(4, 0, 1), -2);
        DUE.is("30 no such purse ahead of n", x.film(0, 3, 13), -5);
        DUE.is("30 purse below", x.film(0, -1, 1), -5);
        DUE.is("30 n above", x.film(0, 0, 13), -7);
        DUE.is("30 n below", x.film(0, 0, -1), -7);
        DUE.is("30 refusals change nothing", x.judge(0, 0), -1);
    }

    private static void laws() {
        UnlikeCoins x = town();
        Due.text(x, "worth 5;fee 1;wage 1;");
        Due.text(x, "worth year+4;fee 1;wage 1;");
        DUE.is("31 by the first and the third", x.laws(0, 2, 8), 5);
        DUE.is("31 by the second", x.laws(0, 2, 10), 2);
        DUE.is("31 none", x.laws(0, 2, 9), 0);
        DUE.is("31 nothing by all", x.laws(0, 4, 0), 7);
        x.force(1);
        DUE.is("31 whatever the law is", x.laws(0, 2, 8), 5);
        DUE.is("31 the law stays", x.count(4), 1);
        x.pass();
        x.set(0, 0, 3);
        x.set(0, 1, 2);
        DUE.is("31 by the year", x.laws(0, 2, 10), 6);
        DUE.is("31 no such purse ahead of the rest", x.laws(3, 0, -1), -5);
        DUE.is("31 purse below", x.laws(-1, 1, 0), -5);
        DUE.is("31 price below", x.laws(0, 0, 0), -7);
        DUE.is("31 price above", x.laws(0, 13, 0), -7);
        DUE.is("31 much below", x.laws(0, 1, -1), -7);
        DUE.is("31 much above", x.laws(0, 1, 100000), -7);
        DUE.is("31 much at most", x.laws(0, 1, 99999), 0);
    }

    private static void sheetsThatCannotTell() {
        UnlikeCoins x = town();
        int[] noSheet = {-1, 4};
        for (int s : noSheet) {
            DUE.is("27 no such sheet", x.judge(s, 9), -2);
            DUE.is("28 no such sheet", x.whose(s), -2);
            DUE.is("29 no such sheet", x.was(s, 9), -2);
        }
        DUE.is("27 missing", x.judge(0, 9), -11);
        DUE.is("28 missing", x.whose(0), -11);
        DUE.is("29 missing", x.was(0, 9), -11);
        x.sheet(0, 0, 13);
        DUE.is("27 more than 12", x.judge(0, 9), -2);
        DUE.is("28 more than 12", x.whose(0), -2);
        DUE.is("29 more than 12", x.was(0, 9), -2);
        x.sheet(0, 0, 12);
        DUE.is("27 just 12", x.judge(0, 1), -1);
        DUE.is("28 just 12", x.whose(0), 2);
        DUE.is("29 just 12", x.was(0, 0), 1);
    }
}
