import java.lang.reflect.Method;
import java.util.ArrayList;
import java.util.List;
import java.util.Map;
import java.util.TreeMap;
import java.util.TreeSet;

/**
 * Every call with numbers at the boundaries of its arguments, two of them at a time, on towns that have
 * nothing, something, and all they can have: answers, and how the town looks behind it, as PlainTown says.
 */
public final class GridTest {
    private static final Due DUE = new Due("GridTest");
    private static final String SOUND = "worth told+price;fee more;wage 2;";

    /** The least and the most of each argument. */
    private static final Map<String, int[]> BOUNDS = new TreeMap<>();
    /** Further numbers that say more than one thing. */
    private static final int[] PAIRS = {1, 10, 11, 12, 20, 5, 50, 55, 54, 60, 99, -10};

    static {
        BOUNDS.put("count", new int[] {0, 5});
        BOUNDS.put("feed", new int[] {1, 5, 0, 255, 0, 255, 0, 255, 0, 255, 0, 255});
        BOUNDS.put("text", new int[] {});
        BOUNDS.put("force", new int[] {0, 5});
        BOUNDS.put("asks", new int[] {0, 2, 0, 999, 0, 99, 0, 999});
        BOUNDS.put("sort", new int[] {0, 5, 0, 99, 0, 9});
        BOUNDS.put("told", new int[] {0, 5, 0, 2});
        BOUNDS.put("purse", new int[] {});
        BOUNDS.put("set", new int[] {0, 4, 0, 5, 0, 99});
        BOUNDS.put("of", new int[] {0, 4, 0, 5});
        BOUNDS.put("all", new int[] {0, 4, 0, 2});
        BOUNDS.put("often", new int[] {0, 4, 1, 12, 0, 2});
        BOUNDS.put("buy", new int[] {0, 4, 1, 12});
        BOUNDS.put("two", new int[] {0, 4, 1, 12, 1, 12, 0, 1});
        BOUNDS.put("price", new int[] {0, 2});
        BOUNDS.put("idle", new int[] {0, 4, 1, 12});
        BOUNDS.put("dearest", new int[] {0, 4, 1, 99});
        BOUNDS.put("swap", new int[] {0, 4, 0, 4, 0, 99});
        BOUNDS.put("best", new int[] {0, 4, 0, 4, 1, 12, 0, 1});
        BOUNDS.put("lacks", new int[] {1, 12, 0, 1});
        BOUNDS.put("thief", new int[] {0, 4, 1, 12, 0, 1});
        BOUNDS.put("rob", new int[] {0, 4});
        BOUNDS.put("wage", new int[] {0, 4, 0, 4, 1, 12, 0, 1});
        BOUNDS.put("strike", new int[] {0, 5, 0, 20});
        BOUNDS.put("pass", new int[] {});
        BOUNDS.put("judge", new int[] {0, 3, 0, 4});
        BOUNDS.put("whose", new int[] {0, 3});
        BOUNDS.put("was", new int[] {0, 3, 0, 1});
        BOUNDS.put("film", new int[] {0, 3, 0, 4, 0, 12});
        BOUNDS.put("laws", new int[] {0, 4, 1, 12, 0, 99999});
        BOUNDS.put("drawn", new int[] {0, 99999, 0, 40});
        BOUNDS.put("mean", new int[] {0, 99999, 1, 20, 0, 40, 0, 1});
        BOUNDS.put("image", new int[] {});
        BOUNDS.put("back", new int[] {});
        BOUNDS.put("sheet", new int[] {0, 3, -1, 2, 0, 40});
        BOUNDS.put("cell", new int[] {0, 3, 0, 39, -128, 255});
        BOUNDS.put("copy", new int[] {0, 3, 0, 40, 0, 3, 0, 40, 0, 40});
        BOUNDS.put("coinsBy", new int[] {0, 3, 0, 2, 0, 37, 0, 10});
        BOUNDS.put("taken", new int[] {0, 10, 0, 6});
    }

    private final List<Object[]> before = new ArrayList<>();

    public static void main(String[] args) throws ReflectiveOperationException {
        new GridTest().all("nothing");
        GridTest some = new GridTest();
        some.coins(3, 2, 3);
        some.sheets(6, 2);
        some.tape("worth 1");
        some.all("something");
        GridTest full = new GridTest();
        full.coins(6, 5, 99);
        full.sheets(40, 3);
        for (int t = 1; t <= 5; t++) {
            full.tape(SOUND);
            full.add("text");
        }
        full.add("force", 5);
        full.add("image");
        full.add("rob", 0);
        full.add("set", 0, 0, 0);
        full.tape("$".repeat(157));
        full.all("all");
        DUE.end();
    }

    // ---- towns

    private void add(String name, Integer... given) {
        Object[] call = new Object[given.length + 1];
        call[0] = name;
        System.arraycopy(given, 0, call, 1, given.length);
        before.add(call);
    }

    private void coins(int sorts, int purses, int most) {
        for (int s = 0; s < sorts; s++) {
            add("sort", 5 - s, 10 * s, 9 - s);
        }
        for (int p = 0; p < purses; p++) {
            add("purse");
            for (int s = p % 2; s < sorts; s++) {
                add("set", p, s, Math.max(0, most - 4 * (s % 3) * p));
            }
        }
    }

    private void sheets(int size, int last) {
        for (int s = 0; s <= last; s++) {
            add("sheet", s, s % 3, s == 1 ? 12 : size);
            for (int i = 0; i < 6; i++) {
                add("cell", s, i, i % 3 == 2 ? 7 + i : i / 3);
            }
        }
    }

    private void tape(String bytes) {
        for (int i = 0; i < bytes.length(); i += 5) {
            Integer[] b = {Math.min(5, bytes.length() - i), 0, 0, 0, 0, 0};
            for (int j = 0; j < b[0]; j++) {
                b[j + 1] = (int) bytes.charAt(i + j);
            }
            add("feed", b);
        }
    }

    // ---- calls

    private static long call(Object town, String name, Object[] given) throws ReflectiveOperationException {
        Class<?>[] types = new Class<?>[given.length];
        java.util.Arrays.fill(types, int.class);
        Method m = town.getClass().getDeclaredMethod(name, types);
        return ((Number) m.invoke(town, given)).longValue();
    }

    private <T> T made(T town) throws ReflectiveOperationException {
        for (Object[] call : before) {
            call(town, (String) call[0], java.util.Arrays.copyOfRange(call, 1, call.length));
        }
        return town;
    }

    private static String look(Object town) {
        return Edges.look((name, given) -> {
            try {
                return (int) call(town, name, given);
            } catch (ReflectiveOperationException wrong) {
                throw new IllegalStateException(name, wrong);
            }
        });
    }

    private void all(String what) throws ReflectiveOperationException {
        for (Map.Entry<String, int[]> bounds : BOUNDS.entrySet()) {
            String name = bounds.getKey();
            TreeSet<String> asked = new TreeSet<>();
            for (Integer[] given : grid(bounds.getValue(), name.equals("swap"))) {
                if (asked.add(java.util.Arrays.toString(given))) {
                    one(what, name, given);
                }
            }
        }
    }

    private void one(String what, String name, Integer[] given) throws ReflectiveOperationException {
        UnlikeCoins town = made(new UnlikeCoins());
        PlainTown plain = made(new PlainTown());
        String asked = what + ": " + name + java.util.Arrays.toString(given);
        DUE.is(asked, call(town, name, given), call(plain, name, given));
        DUE.all(asked + " leaves", look(town), look(plain));
    }

    // ---- numbers

    private static List<Integer> numbers(int least, int most, boolean pairs) {
        List<Integer> found = new ArrayList<>(List.of(Integer.MIN_VALUE, least - 1, least, least + 1, most - 1, most,
            most + 1, Integer.MAX_VALUE));
        for (int i = 0; pairs && i < PAIRS.length; i++) {
            found.add(PAIRS[i]);
        }
        return found;
    }

    private static List<Integer[]> grid(int[] bounds, boolean pairs) {
        int n = bounds.length / 2;
        List<Integer[]> found = new ArrayList<>();
        Integer[] base = new Integer[n];
        for (int a = 0; a < n; a++) {
            base[a] = bounds[2 * a];
        }
        found.add(base.clone());
        for (int a = 0; a < n; a++) {
            for (int v : numbers(bounds[2 * a], bounds[2 * a + 1], pairs && a == 2)) {
                Integer[] given = base.clone();
                given[a] = v;
                found.add(given);
                for (int b = a + 1; b < n; b++) {
                    for (int w : numbers(bounds[2 * b], bounds[2 * b + 1], pairs && b == 2)) {
                        Integer[] two = given.clone();
                        two[b] = w;
                        found.add(two);
                    }
                }
            }
        }
        return found;
    }
}
