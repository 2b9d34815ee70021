import java.lang.reflect.InvocationTargetException;
import java.lang.reflect.Method;
import java.lang.reflect.Modifier;
import java.util.ArrayList;
import java.util.Comparator;
import java.util.List;
import java.util.Random;
import java.util.TreeMap;
import java.util.TreeSet;

/** Runs of calls by fixed seeds, each answered by the class and by PlainTown: all promises together. */
public final class ModelTest {
    private static final int RUNS = 400;
    private static final int[] ODD = {
        Integer.MIN_VALUE, Integer.MAX_VALUE, -1, -2, -10, -11, 6, 7, 12, 13, 40, 41, 99, 100, 255, 256, 999, 1000,
        1 << 30, Integer.MAX_VALUE - 1, Integer.MIN_VALUE + 1};
    private static final String[] PIECES = {
        "worth", "fee", "wage", "or", "and", "not", "told", "many", "more", "year", "number", "price", "(", ")", ";",
        "+", "-", "*", "<", "=", " ", "\n", "0", "7", "12", "9999", "12345", "xy", "$", "\u00ff", "A", "not ", " - "};

    private final Random random;
    private final UnlikeCoins town = new UnlikeCoins();
    private final PlainTown plain = new PlainTown();
    private final List<String> calls = new ArrayList<>();
    private final TreeSet<String> answered;
    private boolean agree = true;

    private ModelTest(long seed, TreeSet<String> answered) {
        random = new Random(seed);
        this.answered = answered;
    }

    public static void main(String[] args) throws Exception {
        List<Method> methods = new ArrayList<>();
        for (Method m : UnlikeCoins.class.getDeclaredMethods()) {
            if (Modifier.isPublic(m.getModifiers())) {
                methods.add(m);
            }
        }
        methods.sort(Comparator.comparing(Method::getName));
        Due due = new Due("ModelTest");
        due.is("public methods", methods.size(), 39);
        TreeSet<String> answered = new TreeSet<>();
        for (int run = 0; run < RUNS; run++) {
            ModelTest test = new ModelTest(run, answered);
            test.build();
            while (test.calls.size() < 512 && test.agree) {
                test.step(methods);
            }
            due.is("run " + run, test.agree ? 1 : 0, 1);
            if (!test.agree) {
                test.calls.forEach(System.out::println);
                break;
            }
        }
        due.is("methods of which some call was not refused", answered.size(), 39);
        due.end();
    }

    private int upTo(int n) {
        return random.nextInt(n + 1);
    }

    private void build() throws Exception {
        int sorts = upTo(6);
        int purses = upTo(5);
        int most = new int[] {1, 3, 8, 99}[upTo(3)];
        for (int s = 0; s < sorts; s++) {
            call("sort", upTo(5), upTo(99), upTo(9));
        }
        for (int p = 0; p < purses; p++) {
            call("purse");
            for (int s = 0; s < sorts; s++) {
                if (upTo(4) > 0) {
                    call("set", p, s, upTo(most));
                }
            }
        }
        for (int t = upTo(3); t > 0; t--) {
            write(someText());
        }
    }

    private void step(List<Method> methods) throws Exception {
        int dice = upTo(99);
        if (dice < 3) {
            write(someText());
            return;
        }
        Method m = methods.get(upTo(methods.size() - 1));
        String name = m.getName();
        boolean costly = name.equals("was") || name.equals("two") || name.equals("wage") || name.equals("price");
        boolean undoing = name.equals("rob") || name.equals("back") || name.equals("feed") || name.equals("sheet");
        if ((costly || undoing) && upTo(5) > 0) {
            return;
        }
        Integer[] given = new Integer[m.getParameterCount()];
        int[] most = MOST.getOrDefault(name, new int[0]);
        for (int a = 0; a < given.length; a++) {
            given[a] = upTo(29) == 0 ? ODD[upTo(ODD.length - 1)] : upTo(a < most.length ? most[a] : 5);
        }
        if (name.equals("sheet") && upTo(4) == 0) {
            given[1] = -1;
        }
        if (name.equals("laws") && upTo(1) == 0) {
            given[2] = (int) plain.often(given[0], given[1], 2);
        }
        call(name, given);
    }

    private static final TreeMap<String, int[]> MOST = new TreeMap<>();

    static {
        MOST.put("feed", new int[] {5, 255, 255, 255, 255, 255});
        MOST.put("asks", new int[] {2, 999, 99, 999});
        MOST.put("sort", new int[] {5, 99, 9});
        MOST.put("told", new int[] {5, 2});
        MOST.put("set", new int[] {4, 5, 12});
        MOST.put("of", new int[] {4, 5});
        MOST.put("all", new int[] {4, 2});
        MOST.put("often", new int[] {4, 12, 2});
        MOST.put("buy", new int[] {4, 8});
        MOST.put("two", new int[] {4, 12, 7, 1});
        MOST.put("price", new int[] {2});
        MOST.put("idle", new int[] {4, 12});
        MOST.put("dearest", new int[] {4, 12});
        MOST.put("swap", new int[] {4, 4, 55});
        MOST.put("best", new int[] {4, 4, 12, 1});
        MOST.put("lacks", new int[] {12, 1});
        MOST.put("thief", new int[] {4, 12, 1});
        MOST.put("rob", new int[] {4});
        MOST.put("wage", new int[] {4, 4, 12, 1});
        MOST.put("strike", new int[] {5, 20});
        MOST.put("judge", new int[] {3, 4});
        MOST.put("whose", new int[] {3});
        MOST.put("was", new int[] {3, 1});
        MOST.put("film", new int[] {3, 4, 12});
        MOST.put("laws", new int[] {4, 12, 300});
        MOST.put("drawn", new int[] {99999, 40});
        MOST.put("mean", new int[] {99999, 20, 40, 1});
        MOST.put("sheet", new int[] {3, 2, 40});
        MOST.put("cell", new int[] {3, 20, 400});
        MOST.put("copy", new int[] {3, 12, 3, 12, 12});
        MOST.put("coinsBy", new int[] {3, 2, 12, 5});
        MOST.put("taken", new int[] {10, 6});
    }

    private void write(String text) throws Exception {
        for (int i = 0; i < text.length(); i += 5) {
            Integer[] b = {Math.min(5, text.length() - i), 0, 0, 0, 0, 0};
            for (int j = 0; j < b[0]; j++) {
                b[j + 1] = (int) text.charAt(i + j);
            }
            call("feed", b);
        }
        if (call("text") >= 0 && upTo(1) == 0) {
            call("force", upTo(5));
        }
    }

    private String someText() {
        if (upTo(3) == 0) {
            return mixed();
        }
        StringBuilder out = new StringBuilder();
        out.append("worth ").append(expression(0)).append(";fee ").append(expression(0));
        out.append(";wage ").append(expression(0)).append(";");
        if (upTo(3) == 0) {
            int at = upTo(out.length() - 1);
            String piece = PIECES[upTo(PIECES.length - 1)];
            if (upTo(1) == 0) {
                out.insert(at, piece);
            } else {
                out.replace(at, Math.min(out.length(), at + piece.length()), piece);
            }
        }
        return out.length() > 160 ? mixed() : out.toString();
    }

    private String mixed() {
        StringBuilder out = new StringBuilder(upTo(1) == 0 ? "worth " : "");
        for (int i = upTo(12); i > 0; i--) {
            out.append(PIECES[upTo(PIECES.length - 1)]);
        }
        return out.toString();
    }

    private String expression(int depth) {
        String[] joints = {" or ", " and ", " < ", "=", "+", " - ", "*", "+"};
        int shape = depth > 4 ? upTo(4) : upTo(12);
        if (shape < 3) {
            return PIECES[6 + upTo(5)];
        }
        if (shape < 5) {
            return String.valueOf(upTo(new int[] {3, 12, 9999}[upTo(2)]));
        }
        if (shape < 6) {
            return "not " + expression(depth + 1);
        }
        if (shape < 7) {
            return "-" + expression(depth + 1);
        }
        if (shape < 9) {
            return "(" + expression(depth + 1) + ")";
        }
        return expression(depth + 1) + joints[upTo(joints.length - 1)] + expression(depth + 1);
    }

    private long call(String name, Integer... given) throws Exception {
        Class<?>[] types = new Class<?>[given.length];
        java.util.Arrays.fill(types, int.class);
        String made = name + java.util.Arrays.toString(given);
        long got;
        long want = ((Number) PlainTown.class.getDeclaredMethod(name, types).invoke(plain, (Object[]) given)).longValue();
        try {
            got = ((Number) UnlikeCoins.class.getMethod(name, types).invoke(town, (Object[]) given)).longValue();
        } catch (InvocationTargetException thrown) {
            thrown.getCause().printStackTrace(System.out);
            calls.add(made + " threw");
            agree = false;
            return -1;
        }
        calls.add(made + " answered " + got + (got == want ? "" : ", due is " + want));
        agree &= got == want;
        if (got >= 0) {
            answered.add(name);
        }
        return got;
    }
}
