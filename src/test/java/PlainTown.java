import java.math.BigInteger;
import java.util.ArrayList;
import java.util.Arrays;
import java.util.Comparator;
import java.util.List;
import java.util.Map;
import java.util.TreeMap;
import java.util.function.Supplier;
import java.util.regex.Matcher;
import java.util.regex.Pattern;

/**
 * The document once more, written in another way and with no thought of speed or of the rules of
 * the language: piles are sorted, texts are trees of functions, the host's refusals are what the
 * machine throws. ModelTest compares the two.
 */
final class PlainTown {
    static final long NO = -4611686018427387904L;

    /** What a call refuses with. */
    static final class Refusal extends RuntimeException {
        private static final long serialVersionUID = 1L;
        final int code;

        Refusal(int code) {
            this.code = code;
        }
    }

    record Kind(int kind, int told, int more) {
        private static final int[] ABOVE = {-1, 0, 0, 1, 2, 0};

        boolean is(int other) {
            for (int k = kind; k >= 0; k = ABOVE[k]) {
                if (k == other) {
                    return true;
                }
            }
            return false;
        }

        int together(int many) {
            if (is(5) && many > 5) {
                return 0;
            }
            return 1 + (is(1) ? 1 : 0) + (is(3) && many > more ? 1 : 0);
        }

        int left(int many) {
            if (is(5)) {
                return (int) Math.floor(many * (9.0 - more) / 9.0 + 1e-9);
            }
            return is(4) && many > 0 ? many - 1 : many;
        }

        int worth(int many) {
            return told * (is(2) && many < 2 ? 3 : 1) + (is(4) ? more : 0);
        }
    }

    interface Tree {
        int of(Map<String, Integer> names);
    }

    record Law(Tree worth, Tree fee, Tree wage) {
        Tree part(int part) {
            return List.of(worth, fee, wage).get(part);
        }
    }

    record Shot(List<int[]> purses, int year, int sorts, int law) {
    }

    private final List<Kind> sorts = new ArrayList<>();
    private final List<int[]> purses = new ArrayList<>();
    private final List<Law> texts = new ArrayList<>();
    private final Object[] sheets = new Object[4];
    private StringBuilder tape = new StringBuilder();
    private int year = 0;
    private int law = 0;
    private Shot shot = null;

    PlainTown() {
        texts.add(new Parse("worth price * 2 ; fee 1 ; wage 1 ;").text());
    }

    // ---- refusals

    private static long answer(Supplier<Integer> call) {
        try {
            return call.get();
        } catch (Refusal refusal) {
            return refusal.code;
        }
    }

    private static void must(boolean holds, int code) {
        if (!holds) {
            throw new Refusal(code);
        }
    }

    private static void range(int code, int v, int least, int most) {
        must(least <= v && v <= most, code);
    }

    private int[] theirs(int p) {
        range(-5, p, 0, purses.size() - 1);
        return purses.get(p);
    }

    private Kind theSort(int s, int code) {
        range(code, s, 0, sorts.size() - 1);
        return sorts.get(s);
    }

    // ---- laying, laws

    private record Pile(int sort, int left, int lies, int together) {
    }

    /** The sorts that k coins are laid of, in the order in which they are; null: they can't be. */
    private List<Integer> lay(int[] purse, int k) {
        Map<Integer, Pile> piles = new TreeMap<>();
        for (int s = 0; s < sorts.size(); s++) {
            piles.put(s, new Pile(s, purse[s], 0, sorts.get(s).together(purse[s])));
        }
        List<Integer> laid = new ArrayList<>();
        while (laid.size() < k) {
            Pile best = piles.values().stream().filter(x -> x.left > 0 && x.lies < x.together)
                .max(Comparator.<Pile>comparingInt(x -> x.left).thenComparingInt(x -> -x.sort)).orElse(null);
            if (best == null) {
                return null;
            }
            laid.add(best.sort);
            piles.put(best.sort, new Pile(best.sort, best.left - 1, best.lies + 1, best.together));
        }
        laid.forEach(s -> purse[s]--);
        return laid;
    }

    private int spend(int[] purse, int k) {
        int n = 0;
        while (lay(purse, k) != null) {
            n++;
        }
        return n;
    }

    private int times(int[] purse, int k) {
        return spend(purse.clone(), k);
    }

    private int times(int[] purse, int k, int gained, int lost) {
        int[] other = purse.clone();
        if (gained >= 0) {
            other[gained] = Math.min(99, other[gained] + 1);
        }
        if (lost >= 0) {
            other[lost]--;
        }
        return spend(other, k);
    }

    private int says(int t, int part, int told, int many, int more, int number, int price) {
        Map<String, Integer> names = Map.of("told", told, "many", many, "more", more,
            "year", year, "number", number, "price", price);
        int v = texts.get(t).part(part).of(names);
        int bound = part == 2 ? 9 : 99;
        return v < 0 ? 0 : v > bound ? bound : v;
    }

    private int worth(int t, int k) {
        return says(t, 0, 0, 0, 0, 0, k);
    }

    private int fee(int g, int t) {
        return says(law, 1, sorts.get(g).told, 0, sorts.get(t).more, g, 0);
    }

    // ---- the calls

    long count(int what) {
        int[] all = {sorts.size(), purses.size(), year, texts.size(), law, tape.length()};
        return what < 0 || what > 5 ? -2 : all[what];
    }

    long feed(int n, int a, int b, int c, int d, int e) {
        int[] bytes = {a, b, c, d, e};
        if (n < 1 || n > 5 || Arrays.stream(bytes).anyMatch(x -> x < 0 || x > 255)) {
            return -2;
        }
        if (tape.length() + n > 160) {
            return -4;
        }
        for (int i = 0; i < n; i++) {
            tape.append((char) bytes[i]);
        }
        return tape.length();
    }

    long text() {
        if (texts.size() == 6) {
            return -4;
        }
        Parse parse = new Parse(tape.toString());
        tape = new StringBuilder();
        try {
            texts.add(parse.text());
            return texts.size() - 1;
        } catch (Refusal fault) {
            return -100 - fault.code;
        }
    }

    long force(int t) {
        if (t < 0 || t >= texts.size()) {
            return -2;
        }
        int was = law;
        law = t;
        return was;
    }

    long asks(int part, int toldMore, int many, int numberPrice) {
        return answer(() -> {
            range(-2, part, 0, 2);
            range(-2, toldMore, 0, 999);
            range(-2, many, 0, 99);
            range(-2, numberPrice, 0, 999);
            return says(law, part, toldMore / 10, many, toldMore % 10, numberPrice / 100, numberPrice % 100);
        });
    }

    long sort(int kind, int told, int more) {
        return answer(() -> {
            range(-2, kind, 0, 5);
            range(-2, told, 0, 99);
            range(-2, more, 0, 9);
            must(sorts.size() < 6, -4);
            sorts.add(new Kind(kind, told, more));
            return sorts.size() - 1;
        });
    }

    long told(int s, int what) {
        return answer(() -> {
            Kind sort = theSort(s, -5);
            range(-7, what, 0, 2);
            return what == 0 ? sort.kind : what == 1 ? sort.told : sort.more;
        });
    }

    long purse() {
        if (purses.size() == 5) {
            return -4;
        }
        purses.add(new int[6]);
        return purses.size() - 1;
    }

    long set(int p, int s, int v) {
        return answer(() -> {
            int[] purse = theirs(p);
            theSort(s, -5);
            range(-7, v, 0, 99);
            int was = purse[s];
            purse[s] = v;
            return was;
        });
    }

    long of(int p, int s) {
        return answer(() -> {
            int[] purse = theirs(p);
            theSort(s, -5);
            return purse[s];
        });
    }

    private static int bits(int[] purse) {
        int bits = 0;
        for (int s = 0; s < purse.length; s++) {
            bits += purse[s] > 0 ? 1 << s : 0;
        }
        return bits;
    }

    private static int sum(int[] purse) {
        return Arrays.stream(purse).sum();
    }

    long all(int p, int what) {
        return answer(() -> {
            int[] purse = theirs(p);
            range(-7, what, 0, 2);
            int worth = 0;
            for (int s = 0; s < sorts.size(); s++) {
                for (int i = 0; i < purse[s]; i++) {
                    worth += sorts.get(s).worth(purse[s]);
                }
            }
            return what == 0 ? sum(purse) : what == 1 ? bits(purse) : worth;
        });
    }

    long often(int p, int k, int what) {
        return answer(() -> {
            int[] purse = theirs(p).clone();
            range(-7, k, 1, 12);
            range(-7, what, 0, 2);
            int n = spend(purse, k);
            return what == 0 ? n : what == 1 ? sum(purse) : n * worth(law, k);
        });
    }

    long buy(int p, int k) {
        return answer(() -> {
            int[] purse = theirs(p);
            range(-7, k, 1, 12);
            List<Integer> laid = lay(purse, k);
            must(laid != null, -3);
            return laid.stream().distinct().mapToInt(s -> 1 << s).sum();
        });
    }

    long two(int p, int j, int k, int what) {
        return answer(() -> {
            int[] purse = theirs(p).clone();
            range(-7, j, 1, 12);
            range(-7, k, 1, 12);
            must(j > k, -7);
            range(-7, what, 0, 1);
            List<Integer> sums = new ArrayList<>();
            do {
                sums.add(sums.size() * worth(law, j) + times(purse, k) * worth(law, k));
            } while (lay(purse, j) != null);
            int most = sums.stream().max(Comparator.naturalOrder()).get();
            return what == 0 ? sums.indexOf(most) : most;
        });
    }

    long price(int what) {
        return answer(() -> {
            range(-2, what, 0, 2);
            int[] best = null;
            for (int k = 1; k <= 12; k++) {
                int price = k;
                int n = purses.stream().mapToInt(x -> times(x, price)).sum();
                if (best == null || n * k > best[1]) {
                    best = new int[] {k, n * k, n};
                }
            }
            return best[what];
        });
    }

    long idle(int p, int k) {
        return answer(() -> {
            int[] purse = theirs(p).clone();
            range(-7, k, 1, 12);
            spend(purse, k);
            return bits(purse);
        });
    }

    long dearest(int p, int n) {
        return answer(() -> {
            int[] purse = theirs(p);
            range(-7, n, 1, 99);
            int best = 0;
            for (int k = 1; k <= 12; k++) {
                best = times(purse, k) >= n ? k : best;
            }
            return best;
        });
    }

    private boolean swapped(int[] mine, int[] other, int g, int t) {
        if (mine[g] < 1 || other[t] < 1 || mine[t] > 98 || other[g] > 98) {
            return false;
        }
        mine[g]--;
        other[t]--;
        mine[t]++;
        other[g]++;
        return true;
    }

    long swap(int p, int q, int unlike) {
        return answer(() -> {
            int[] mine = theirs(p);
            int[] other = theirs(q);
            must(p != q, -5);
            range(-7, unlike, 0, 99);
            theSort(unlike / 10, -7);
            theSort(unlike % 10, -7);
            must(unlike / 10 != unlike % 10, -7);
            must(swapped(mine, other, unlike / 10, unlike % 10), -3);
            return fee(unlike / 10, unlike % 10);
        });
    }

    long best(int p, int q, int k, int what) {
        return answer(() -> {
            int[] mine = theirs(p);
            int[] other = theirs(q);
            must(p != q, -5);
            range(-7, k, 1, 12);
            range(-7, what, 0, 1);
            int now = times(mine, k) + times(other, k);
            List<int[]> ways = new ArrayList<>();
            for (int g = 0; g < sorts.size(); g++) {
                for (int t = 0; t < sorts.size(); t++) {
                    int[] a = mine.clone();
                    int[] b = other.clone();
                    if (g != t && swapped(a, b, g, t) && spend(a.clone(), k) + spend(b.clone(), k) > now) {
                        ways.add(new int[] {-(times(a, k) + times(b, k)), fee(g, t), 10 * g + t});
                    }
                }
            }
            ways.sort(Comparator.<int[]>comparingInt(w -> w[0]).thenComparingInt(w -> w[1])
                .thenComparingInt(w -> w[2]));
            if (ways.isEmpty()) {
                return what == 0 ? -1 : now;
            }
            return what == 0 ? ways.get(0)[2] : -ways.get(0)[0];
        });
    }

    long lacks(int k, int what) {
        return answer(() -> {
            range(-2, k, 1, 12);
            range(-2, what, 0, 1);
            List<Integer> sums = new ArrayList<>();
            for (int s = 0; s < sorts.size(); s++) {
                int gained = s;
                sums.add(purses.stream().mapToInt(x -> times(x, k, gained, -1)).sum());
            }
            int most = sums.stream().max(Comparator.naturalOrder()).orElse(-1);
            return what == 0 ? sums.indexOf(most) : most;
        });
    }

    long thief(int p, int k, int what) {
        return answer(() -> {
            int[] purse = theirs(p);
            range(-7, k, 1, 12);
            range(-7, what, 0, 1);
            TreeMap<Integer, Integer> firsts = new TreeMap<>();
            for (int s = 0; s < sorts.size(); s++) {
                if (purse[s] > 0) {
                    firsts.putIfAbsent(times(purse, k, -1, s), s);
                }
            }
            if (firsts.isEmpty()) {
                return -1;
            }
            return what == 0 ? firsts.firstEntry().getValue() : firsts.firstKey();
        });
    }

    long rob(int p) {
        return answer(() -> {
            int[] purse = theirs(p);
            int before = sum(purse);
            for (int s = 0; s < 6; s++) {
                purse[s] = purse[s] == 1 ? 0 : purse[s];
            }
            return before - sum(purse);
        });
    }

    private void wages(int[] purse, int n, int from, int digits, int k, List<int[]> ways) {
        if (n == 0) {
            ways.add(new int[] {digits, times(purse, k)});
            return;
        }
        for (int s = from; s < sorts.size(); s++) {
            if (purse[s] < 99) {
                purse[s]++;
                wages(purse, n - 1, s, 10 * digits + s + 1, k, ways);
                purse[s]--;
            }
        }
    }

    long wage(int p, int n, int k, int what) {
        return answer(() -> {
            int[] purse = theirs(p);
            range(-7, n, 0, 4);
            range(-7, k, 1, 12);
            range(-7, what, 0, 1);
            List<int[]> ways = new ArrayList<>();
            wages(purse.clone(), n, 0, 0, k, ways);
            int[] best = {-1, -1};
            for (int[] way : ways) {
                if (way[1] > best[1]) {
                    best = way;
                }
            }
            return best[what];
        });
    }

    long strike(int s, int n) {
        return answer(() -> {
            theSort(s, -5);
            range(-7, n, 0, 20);
            int came = 0;
            for (int[] purse : purses) {
                for (int i = 0; i < n && purse[s] < 99; i++) {
                    purse[s]++;
                    came++;
                }
            }
            return came;
        });
    }

    long pass() {
        year = year == 99 ? 99 : year + 1;
        for (int[] purse : purses) {
            for (int s = 0; s < sorts.size(); s++) {
                Kind sort = sorts.get(s);
                int left = sort.left(purse[s]);
                purse[s] = Math.min(99, left + says(law, 2, sort.told, left, sort.more, s, 0));
            }
        }
        return purses.stream().mapToInt(PlainTown::sum).sum();
    }

    // ---- what was in a purse

    private List<Integer> story(int s) {
        range(-2, s, 0, 3);
        must(sheets[s] != null, -11);
        List<Integer> story = new ArrayList<>();
        for (int i = 0; i < java.lang.reflect.Array.getLength(sheets[s]); i++) {
            story.add(java.lang.reflect.Array.getInt(sheets[s], i));
        }
        must(story.size() <= 12, -2);
        return story;
    }

    private int other(List<Integer> story, int[] purse) {
        for (int k = 1; k <= story.size(); k++) {
            if (story.get(k - 1) != times(purse, k)) {
                return k;
            }
        }
        return -1;
    }

    long judge(int s, int p) {
        return answer(() -> {
            List<Integer> story = story(s);
            return other(story, theirs(p));
        });
    }

    long whose(int s) {
        return answer(() -> {
            List<Integer> story = story(s);
            int bits = 0;
            for (int p = 0; p < purses.size(); p++) {
                bits += other(story, purses.get(p)) == -1 ? 1 << p : 0;
            }
            return bits;
        });
    }

    private void could(int[] purse, int s, int digits, List<Integer> story, List<Integer> found) {
        if (s == sorts.size()) {
            if (other(story, purse) == -1) {
                found.add(digits);
            }
            return;
        }
        for (int v = 0; v <= 3; v++) {
            purse[s] = v;
            could(purse, s + 1, 10 * digits + v, story, found);
        }
    }

    long was(int s, int what) {
        return answer(() -> {
            List<Integer> story = story(s);
            range(-7, what, 0, 1);
            List<Integer> found = new ArrayList<>();
            could(new int[6], 0, 0, story, found);
            return what == 0 ? found.size() : found.isEmpty() ? -1 : found.get(0);
        });
    }

    long film(int s, int p, int n) {
        return answer(() -> {
            range(-2, s, 0, 3);
            int[] purse = theirs(p);
            range(-7, n, 0, 12);
            int[] row = new int[n];
            Arrays.setAll(row, i -> times(purse, i + 1));
            sheets[s] = row;
            return n;
        });
    }

    long laws(int p, int k, int much) {
        return answer(() -> {
            int[] purse = theirs(p);
            range(-7, k, 1, 12);
            range(-7, much, 0, 99999);
            int bits = 0;
            for (int t = 0; t < texts.size(); t++) {
                bits += times(purse, k) * worth(t, k) == much ? 1 << t : 0;
            }
            return bits;
        });
    }

    // ---- markets by lot

    private int market(int seed, int n) {
        if (purses.isEmpty()) {
            return 0;
        }
        BigInteger factor = BigInteger.valueOf(48271);
        BigInteger modulus = BigInteger.valueOf(2147483647);
        BigInteger lot = BigInteger.valueOf(seed).add(BigInteger.ONE);
        List<int[]> thought = new ArrayList<>();
        purses.forEach(x -> thought.add(x.clone()));
        int could = 0;
        for (int i = 0; i < n; i++) {
            lot = lot.multiply(factor).mod(modulus);
            int p = lot.mod(BigInteger.valueOf(purses.size())).intValue();
            lot = lot.multiply(factor).mod(modulus);
            int k = 1 + lot.mod(BigInteger.valueOf(6)).intValue();
            could += lay(thought.get(p), k) == null ? 0 : 1;
        }
        return could;
    }

    long drawn(int seed, int n) {
        return answer(() -> {
            range(-2, seed, 0, 99999);
            range(-2, n, 0, 40);
            return market(seed, n);
        });
    }

    long mean(int seed, int seeds, int n, int part) {
        if (seed < 0 || seed > 99999 || seeds < 1 || seeds > 20 || n < 0 || n > 40 || part < 0 || part > 1) {
            return NO;
        }
        int sum = 0;
        for (int i = 0; i < seeds; i++) {
            sum += market(seed + i, n);
        }
        int gcd = BigInteger.valueOf(sum).gcd(BigInteger.valueOf(seeds)).intValue();
        return part == 0 ? sum / gcd : seeds / gcd;
    }

    long image() {
        List<int[]> copies = new ArrayList<>();
        purses.forEach(x -> copies.add(x.clone()));
        shot = new Shot(copies, year, sorts.size(), law);
        return purses.size();
    }

    long back() {
        if (shot == null) {
            return -3;
        }
        purses.clear();
        shot.purses.forEach(x -> purses.add(x.clone()));
        sorts.subList(shot.sorts, sorts.size()).clear();
        year = shot.year;
        law = shot.law;
        return purses.size();
    }

    // ---- the host

    long sheet(int s, int sort, int n) {
        if (s < 0 || s > 3 || sort < -1 || sort > 2) {
            return -2;
        }
        if (sort == -1) {
            sheets[s] = null;
            return 1;
        }
        if (n > 40) {
            return -2;
        }
        try {
            sheets[s] = sort == 0 ? new byte[n] : sort == 1 ? new short[n] : new int[n];
            return 1;
        } catch (NegativeArraySizeException tooSmall) {
            return -14;
        }
    }

    long cell(int s, int i, int v) {
        if (s < 0 || s > 3) {
            return -2;
        }
        if (sheets[s] == null) {
            return -11;
        }
        try {
            if (sheets[s] instanceof byte[] bytes) {
                bytes[i] = (byte) v;
            } else if (sheets[s] instanceof short[] shorts) {
                shorts[i] = (short) v;
            } else {
                ((int[]) sheets[s])[i] = v;
            }
            return 1;
        } catch (ArrayIndexOutOfBoundsException outside) {
            return -12;
        }
    }

    long copy(int s, int i, int other, int j, int n) {
        if (s < 0 || s > 3 || other < 0 || other > 3) {
            return -2;
        }
        try {
            System.arraycopy(sheets[s], i, sheets[other], j, n);
            return n;
        } catch (NullPointerException missing) {
            return -11;
        } catch (ArrayStoreException unlike) {
            return -13;
        } catch (IndexOutOfBoundsException outside) {
            return -12;
        }
    }

    long coinsBy(int s, int sort, int at, int n) {
        if (s < 0 || s > 3 || sort < 0 || sort > 2 || n < 0 || n > 10) {
            return -2;
        }
        if (sheets[s] == null) {
            return -11;
        }
        Class<?> wanted = List.of(byte[].class, short[].class, int[].class).get(sort);
        if (!wanted.isInstance(sheets[s])) {
            return -13;
        }
        int done = 0;
        for (int i = 0; i < n; i++) {
            int[] three = new int[3];
            try {
                for (int j = 0; j < 3; j++) {
                    three[j] = java.lang.reflect.Array.getInt(sheets[s], at + 3 * i + j);
                }
            } catch (ArrayIndexOutOfBoundsException outside) {
                return -12;
            }
            done += set(three[0], three[1], three[2]) >= 0 ? 1 : 0;
        }
        return done;
    }

    long taken(int i, int kind) {
        if (kind < 0 || kind > 6) {
            return -2;
        }
        if (i < 0 || i > 10) {
            return -12;
        }
        Object there = null;
        if (i < 5) {
            there = i < purses.size() && sum(purses.get(i)) > 0 ? purses.get(i) : null;
        } else {
            there = i - 5 < sorts.size() ? sorts.get(i - 5) : null;
        }
        if (there == null) {
            return -11;
        }
        if (there instanceof Kind sort) {
            return kind < 6 && sort.is(kind) ? i - 5 : -13;
        }
        return kind == 6 ? sum((int[]) there) : -13;
    }

    // ---- texts

    /** Tokens by a pattern, trees of functions; the place of a fault is thrown. */
    private static final class Parse {
        private static final Pattern TOKEN = Pattern.compile("[ \n]*([a-z]+|[0-9]+|[();+\\-*<=])");
        private static final List<String> KEYS = List.of("worth", "fee", "wage", "and", "or", "not");
        private static final List<String> NAMES = List.of("told", "many", "more", "year", "number", "price");
        private final List<String> tokens = new ArrayList<>();
        private final List<Integer> places = new ArrayList<>();
        private int next = 0;

        Parse(String text) {
            Matcher m = TOKEN.matcher(text);
            int at = 0;
            while (m.region(at, text.length()).lookingAt()) {
                String token = m.group(1);
                boolean known = !Character.isLetter(token.charAt(0)) || KEYS.contains(token) || NAMES.contains(token);
                boolean fits = !Character.isDigit(token.charAt(0)) || token.length() <= 4;
                tokens.add(known && fits ? token : "?");
                places.add(m.start(1));
                at = m.end();
            }
            while (at < text.length() && " \n".indexOf(text.charAt(at)) >= 0) {
                at++;
            }
            tokens.add(at == text.length() ? "" : "?");
            places.add(at);
        }

        private String peek() {
            return tokens.get(next);
        }

        private Refusal fault() {
            return new Refusal(places.get(next));
        }

        private boolean skip(String token) {
            if (!peek().equals(token)) {
                return false;
            }
            next++;
            return true;
        }

        private void need(String token) {
            if (!skip(token)) {
                throw fault();
            }
        }

        Law text() {
            Tree[] parts = new Tree[3];
            for (int i = 0; i < 3; i++) {
                need(KEYS.get(i));
                parts[i] = either(0);
                need(";");
            }
            need("");
            return new Law(parts[0], parts[1], parts[2]);
        }

        private Tree either(int open) {
            Tree a = both(open);
            while (skip("or")) {
                Tree l = a;
                Tree r = both(open);
                a = n -> l.of(n) != 0 | r.of(n) != 0 ? 1 : 0;
            }
            return a;
        }

        private Tree both(int open) {
            Tree a = denied(open);
            while (skip("and")) {
                Tree l = a;
                Tree r = denied(open);
                a = n -> l.of(n) != 0 & r.of(n) != 0 ? 1 : 0;
            }
            return a;
        }

        private void mayOpen(int open) {
            if (open == 5) {
                throw fault();
            }
        }

        private Tree denied(int open) {
            if (peek().equals("not")) {
                mayOpen(open);
                next++;
                Tree a = denied(open + 1);
                return n -> a.of(n) == 0 ? 1 : 0;
            }
            Tree l = sum(open);
            if (skip("<")) {
                Tree r = sum(open);
                return n -> l.of(n) < r.of(n) ? 1 : 0;
            }
            if (skip("=")) {
                Tree r = sum(open);
                return n -> l.of(n) == r.of(n) ? 1 : 0;
            }
            return l;
        }

        private Tree sum(int open) {
            Tree a = term(open);
            while (peek().equals("+") || peek().equals("-")) {
                int sign = skip("+") ? 1 : -1;
                if (sign < 0) {
                    next++;
                }
                Tree l = a;
                Tree r = term(open);
                a = n -> l.of(n) + sign * r.of(n);
            }
            return a;
        }

        private Tree term(int open) {
            Tree a = one(open);
            while (skip("*")) {
                Tree l = a;
                Tree r = one(open);
                a = n -> l.of(n) * r.of(n);
            }
            return a;
        }

        private Tree one(int open) {
            String token = peek();
            if (token.matches("[0-9]+")) {
                next++;
                return n -> Integer.parseInt(token);
            }
            if (NAMES.contains(token)) {
                next++;
                return n -> n.get(token);
            }
            if (token.equals("-")) {
                mayOpen(open);
                next++;
                Tree a = one(open + 1);
                return n -> -a.of(n);
            }
            if (token.equals("(")) {
                mayOpen(open);
                next++;
                Tree a = either(open + 1);
                need(")");
                return a;
            }
            throw fault();
        }
    }
}
