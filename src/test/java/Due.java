/** What the tests have in common: it compares answers with those that are due, and ends a test. */
final class Due {
    private final String test;
    private int asked = 0;
    private int wrong = 0;

    Due(String test) {
        this.test = test;
    }

    /** The promise (or what else is tested), what was answered, and what is due. */
    void is(String promise, long got, long want) {
        asked++;
        if (got != want) {
            wrong++;
            System.out.println(test + ": " + promise + ": answered " + got + ", due is " + want);
        }
    }

    void all(String promise, String got, String want) {
        asked++;
        if (!got.equals(want)) {
            wrong++;
            System.out.println(test + ": " + promise + ": answered " + got + ", due is " + want);
        }
    }

    void end() {
        System.out.println(test + ": " + asked + " answers, " + wrong + " wrong");
        if (wrong != 0 || asked == 0) {
            System.exit(1);
        }
    }

    /** Puts a text on the tape, five bytes at a time. */
    static void tape(UnlikeCoins town, String text) {
        for (int i = 0; i < text.length(); i += 5) {
            int n = Math.min(5, text.length() - i);
            int[] b = new int[5];
            for (int j = 0; j < n; j++) {
                b[j] = text.charAt(i + j);
            }
            town.feed(n, b[0], b[1], b[2], b[3], b[4]);
        }
    }

    static int text(UnlikeCoins town, String text) {
        tape(town, text);
        return town.text();
    }

    /** A purse that has so many of sorts 0, 1, .. */
    static int purse(UnlikeCoins town, int... many) {
        int p = town.purse();
        for (int s = 0; s < many.length; s++) {
            town.set(p, s, many[s]);
        }
        return p;
    }

    /** A sheet of ints that tells these numbers. */
    static void sheet(UnlikeCoins town, int s, int... numbers) {
        town.sheet(s, 2, numbers.length);
        for (int i = 0; i < numbers.length; i++) {
            town.cell(s, i, numbers[i]);
        }
    }

    /** What a purse has of sorts 0, 1, .. */
    static String has(UnlikeCoins town, int p) {
        StringBuilder out = new StringBuilder();
        for (int s = 0; s < town.count(0); s++) {
            out.append(s == 0 ? "" : " ").append(town.of(p, s));
        }
        return out.toString();
    }
}
