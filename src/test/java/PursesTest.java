/** Promises 7 to 12: sort, told, purse, set, of, all. */
public final class PursesTest {
    private static final Due DUE = new Due("PursesTest");

    public static void main(String[] args) {
        sorts();
        purses();
        coins();
        worth();
        DUE.end();
    }

    private static void sorts() {
        UnlikeCoins x = new UnlikeCoins();
        DUE.is("7 kind below", x.sort(-1, 0, 0), -2);
        DUE.is("7 kind above", x.sort(6, 0, 0), -2);
        DUE.is("7 told below", x.sort(0, -1, 0), -2);
        DUE.is("7 told above", x.sort(0, 100, 0), -2);
        DUE.is("7 more below", x.sort(0, 0, -1), -2);
        DUE.is("7 more above", x.sort(0, 0, 10), -2);
        x.purse();
        for (int s = 0; s < 6; s++) {
            DUE.is("7 its number", x.sort(s, 99 - s, 9 - s), s);
            DUE.is("7 nobody has any", x.of(0, s), 0);
        }
        DUE.is("7 FULL", x.sort(0, 0, 0), -4);
        DUE.is("7 BAD is ahead of FULL", x.sort(0, 0, 10), -2);
        for (int s = 0; s < 6; s++) {
            DUE.is("8 kind", x.told(s, 0), s);
            DUE.is("8 told", x.told(s, 1), 99 - s);
            DUE.is("8 more", x.told(s, 2), 9 - s);
        }
        DUE.is("8 what below", x.told(0, -1), -7);
        DUE.is("8 what above", x.told(0, 3), -7);
        DUE.is("8 sort below", x.told(-1, 0), -5);
        DUE.is("8 no such sort ahead of what", x.told(6, 3), -5);
    }

    private static void purses() {
        UnlikeCoins x = new UnlikeCoins();
        x.sort(0, 0, 0);
        for (int p = 0; p < 5; p++) {
            DUE.is("9 its number", x.purse(), p);
            DUE.is("9 empty", x.all(p, 0), 0);
        }
        DUE.is("9 FULL", x.purse(), -4);
        DUE.is("9 five", x.count(1), 5);
    }

    private static void coins() {
        UnlikeCoins x = new UnlikeCoins();
        x.sort(0, 0, 0);
        x.sort(1, 0, 0);
        x.purse();
        x.purse();
        DUE.is("10 had none", x.set(0, 1, 7), 0);
        DUE.is("10 had seven", x.set(0, 1, 99), 7);
        DUE.is("10 had ninety-nine", x.set(0, 1, 0), 99);
        DUE.is("10 purse below", x.set(-1, 0, 1), -5);
        DUE.is("10 purse above", x.set(2, 0, 1), -5);
        DUE.is("10 sort below", x.set(0, -1, 1), -5);
        DUE.is("10 no such sort ahead of v", x.set(0, 2, 100), -5);
        DUE.is("10 v below", x.set(0, 0, -1), -7);
        DUE.is("10 v above", x.set(0, 0, 100), -7);
        x.set(0, 0, 3);
        x.set(1, 1, 5);
        DUE.all("11 of the first purse", Due.has(x, 0), "3 0");
        DUE.all("11 of the second purse", Due.has(x, 1), "0 5");
        DUE.is("11 purse below", x.of(-1, 0), -5);
        DUE.is("11 purse above", x.of(2, 0), -5);
        DUE.is("11 sort below", x.of(0, -1), -5);
        DUE.is("11 sort above", x.of(0, 2), -5);
        x.set(1, 0, 2);
        DUE.is("12 coins", x.all(1, 0), 7);
        DUE.is("12 sorts", x.all(1, 1), 3);
        DUE.is("12 sorts of the other", x.all(0, 1), 1);
        DUE.is("12 what below", x.all(0, -1), -7);
        DUE.is("12 what above", x.all(0, 3), -7);
        DUE.is("12 no such purse ahead of what", x.all(2, 3), -5);
        DUE.is("12 purse below", x.all(-1, 0), -5);
    }

    /** One purse with so many of one sort. */
    private static UnlikeCoins one(int kind, int told, int more, int many) {
        UnlikeCoins x = new UnlikeCoins();
        x.sort(kind, told, more);
        Due.purse(x, many);
        return x;
    }

    private static void worth() {
        int[] plain = {0, 1, 3, 5};
        for (int kind : plain) {
            DUE.is("12 worth of one", one(kind, 10, 4, 1).all(0, 2), 10);
            DUE.is("12 worth of three", one(kind, 10, 4, 3).all(0, 2), 30);
        }
        DUE.is("12 one scarce", one(2, 10, 4, 1).all(0, 2), 30);
        DUE.is("12 two scarce", one(2, 10, 4, 2).all(0, 2), 20);
        DUE.is("12 one gilt", one(4, 10, 4, 1).all(0, 2), 34);
        DUE.is("12 two gilt", one(4, 10, 4, 2).all(0, 2), 28);
        DUE.is("12 no gilt", one(4, 10, 4, 0).all(0, 2), 0);
        UnlikeCoins x = new UnlikeCoins();
        x.sort(0, 7, 0);
        x.sort(4, 99, 9);
        x.sort(2, 5, 0);
        Due.purse(x, 2, 99, 1);
        DUE.is("12 together", x.all(0, 2), 14 + 99 * 108 + 15);
    }
}
