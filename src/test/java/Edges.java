import java.lang.reflect.InvocationTargetException;
import java.lang.reflect.Method;
import java.util.ArrayList;
import java.util.List;
import java.util.Set;
import java.util.TreeMap;
import java.util.regex.Matcher;
import java.util.regex.Pattern;

/**
 * Tests at the document's boundaries. Each begins with the promise and the sentence that it looks at
 * (EdgesTest sees to it that the sentence stands in the document), makes a town by calls that are
 * written down, and says what further calls answer. A call that is refused, or only asks, is made to
 * one of two like towns: both must look alike behind it.
 */
final class Edges {
    /** The sentences that were looked at, by the section in which they stand: 0 is "Terms". */
    record Sentence(int section, int promise, String words) {
    }

    /** Any town: it answers calls by their names. */
    interface Town {
        int call(String name, Object... given);
    }

    private record Row(String name, Method method, Object[] given) {
    }

    /** Calls to an object beyond 512 may answer anything; looking at it takes some 300. */
    private static final int MOST_CALLS = 200;
    private static final Pattern CALL = Pattern.compile("(\\w+)\\(([^)]*)\\)");
    private static final Set<String> ASKING = Set.of(
        "count", "asks", "told", "of", "all", "often", "two", "price", "idle", "dearest", "best", "lacks",
        "thief", "wage", "judge", "whose", "was", "laws", "drawn", "mean", "taken");
    private static final TreeMap<String, Method> METHODS = new TreeMap<>();

    static {
        for (Method m : UnlikeCoins.class.getDeclaredMethods()) {
            METHODS.put(m.getName(), m);
        }
    }

    private final List<Sentence> sentences = new ArrayList<>();
    private final List<Row> made = new ArrayList<>();
    private Sentence sentence = null;
    private UnlikeCoins town = new UnlikeCoins();
    private int rows = 0;
    private int rowsOfSentence = 0;
    private int wrong = 0;

    // ---- which promise, which sentence

    /** A sentence of "Terms" (or of "What it is"), looked at by the calls of a promise. */
    void terms(int promise, String words) {
        begin(new Sentence(0, promise, words));
    }

    void promise(int promise, String words) {
        begin(new Sentence(promise, promise, words));
    }

    private void begin(Sentence next) {
        endSentence();
        sentence = next;
        sentences.add(next);
        rowsOfSentence = 0;
        town("");
    }

    private void endSentence() {
        if (sentence != null && rowsOfSentence == 0) {
            fault("no row", "none", "some");
        }
    }

    List<Sentence> sentences() {
        return sentences;
    }

    int rows() {
        return rows;
    }

    int wrong() {
        endSentence();
        return wrong;
    }

    // ---- towns

    /** A new town, and calls to it, whose answers are not looked at. */
    void town(String calls) {
        made.clear();
        town = new UnlikeCoins();
        then(calls);
    }

    void then(String calls) {
        for (Row row : read(calls)) {
            make(row);
        }
    }

    void then(String call, int times) {
        for (int i = 0; i < times; i++) {
            then(call);
        }
    }

    /** These bytes come behind the tape. */
    void tape(String bytes) {
        for (int i = 0; i < bytes.length(); i += 5) {
            int n = Math.min(5, bytes.length() - i);
            StringBuilder call = new StringBuilder("feed(").append(n);
            for (int j = 0; j < 5; j++) {
                call.append(", ").append(j < n ? (int) bytes.charAt(i + j) : 0);
            }
            then(call.append(')').toString());
        }
    }

    /** A text more, which is the law. */
    void law(String text) {
        tape(text);
        then("text() force(" + again().count(3) + ")");
    }

    // ---- what is due

    /** A call, and what it answers; if it may not change a thing, two towns are compared, too. */
    void is(String call, long want) {
        Row row = read(call).get(0);
        boolean keeps = changesNothing(row.name, want);
        UnlikeCoins twin = keeps ? again() : null;
        UnlikeCoins other = keeps ? again() : null;
        due(call, make(row), want);
        if (keeps) {
            due(call + " once more", answer(twin, row), want);
            same(call + " changes nothing", look(twin), look(other));
        }
    }

    /**
     * The call at the boundaries of its argument $: the least and the most with their neighbours on
     * both sides. Those inside answer as told, in their order; those outside, far ones, too, refuse.
     * Each is made to a town of its own.
     */
    void range(String call, int least, int most, long refusal, long... inside) {
        sides(call, least, most, refusal, refusal, inside);
    }

    /** The same, where those below are refused otherwise than those above. */
    void sides(String call, int least, int most, long below, long above, long... inside) {
        List<Integer> good = new ArrayList<>();
        for (int v : new int[] {least, least + 1, most - 1, most}) {
            if (v >= least && v <= most && !good.contains(v)) {
                good.add(v);
            }
        }
        due(call + " is told for so many numbers", inside.length, good.size());
        for (int i = 0; i < Math.min(inside.length, good.size()); i++) {
            alone(call, good.get(i), inside[i]);
        }
        alone(call, least - 1, below);
        alone(call, Integer.MIN_VALUE, below);
        alone(call, most + 1, above);
        alone(call, Integer.MAX_VALUE, above);
    }

    private void alone(String call, int v, long want) {
        apart(call.replace("$", String.valueOf(v)), want);
    }

    /** A call that is made to a town like this one, which stays as it is. */
    void apart(String call, long want) {
        UnlikeCoins now = town;
        List<Row> before = new ArrayList<>(made);
        town = again();
        is(call, want);
        town = now;
        made.clear();
        made.addAll(before);
    }

    /** What the purses have: "3 0, 1 2" is two of them, with two sorts. */
    void has(String want) {
        UnlikeCoins x = again();
        StringBuilder out = new StringBuilder();
        for (int p = 0; p < x.count(1); p++) {
            out.append(p == 0 ? "" : ", ");
            for (int s = 0; s < x.count(0); s++) {
                out.append(s == 0 ? "" : " ").append(x.of(p, s));
            }
        }
        same("what the purses have", out.toString(), want);
    }

    /** What the numbers of sheet 0, 1 or 2 are, each 0 .. 99 (a ? stands for another one). */
    void numbers(int s, String want) {
        StringBuilder out = new StringBuilder();
        lookAtSheet(asTown(again()), s, out);
        String got = out.toString();
        same("sheet " + s, got.substring(got.indexOf(':') + 1).trim(), want);
    }

    void due(String what, long got, long want) {
        rows++;
        rowsOfSentence++;
        if (got != want) {
            fault(what, String.valueOf(got), String.valueOf(want));
        }
    }

    void same(String what, String got, String want) {
        rows++;
        rowsOfSentence++;
        if (!got.equals(want)) {
            fault(what, got, want);
        }
    }

    private void fault(String what, String got, String want) {
        wrong++;
        String where = sentence == null ? "" : "promise " + sentence.promise + ", \"" + sentence.words + "\": ";
        System.out.println(where + what + ": answered " + got + ", due is " + want);
    }

    // ---- calls

    private static boolean changesNothing(String name, long want) {
        if (ASKING.contains(name)) {
            return true;
        }
        boolean told = name.equals("text") && want <= -100 || name.equals("coinsBy") && want == -12;
        return want < -1 && !told;
    }

    private static List<Row> read(String calls) {
        List<Row> found = new ArrayList<>();
        Matcher m = CALL.matcher(calls);
        int end = 0;
        while (m.find()) {
            end = m.end();
            Method method = METHODS.get(m.group(1));
            String[] words = m.group(2).isBlank() ? new String[0] : m.group(2).split(",");
            if (method == null || method.getParameterCount() != words.length) {
                throw new IllegalStateException("no such call: " + m.group());
            }
            Object[] given = new Object[words.length];
            for (int i = 0; i < given.length; i++) {
                given[i] = number(words[i].trim());
            }
            found.add(new Row(m.group(1), method, given));
        }
        if (!calls.substring(end).isBlank()) {
            throw new IllegalStateException("not read: " + calls);
        }
        return found;
    }

    private static int number(String word) {
        switch (word) {
            case "MIN": return Integer.MIN_VALUE;
            case "MAX": return Integer.MAX_VALUE;
            default: return Integer.parseInt(word);
        }
    }

    private static long answer(UnlikeCoins x, Row row) {
        try {
            return ((Number) row.method.invoke(x, row.given)).longValue();
        } catch (InvocationTargetException thrown) {
            throw new IllegalStateException(row.name + " threw", thrown.getCause());
        } catch (IllegalAccessException hidden) {
            throw new IllegalStateException(row.name + " is not public", hidden);
        }
    }

    private long make(Row row) {
        made.add(row);
        if (made.size() > MOST_CALLS) {
            throw new IllegalStateException("too many calls");
        }
        return answer(town, row);
    }

    /** A town like this one. */
    private UnlikeCoins again() {
        UnlikeCoins x = new UnlikeCoins();
        for (Row row : made) {
            answer(x, row);
        }
        return x;
    }

    // ---- how a town looks; the town is used up by that

    static String look(UnlikeCoins x) {
        return look(asTown(x));
    }

    private static Town asTown(UnlikeCoins x) {
        return (name, given) -> (int) answer(x, new Row(name, METHODS.get(name), given));
    }

    static String look(Town x) {
        StringBuilder out = new StringBuilder();
        lookAtCoins(x, out);
        lookAtLaws(x, out);
        for (int s : new int[] {3, 0, 1, 2}) {
            lookAtSheet(x, s, out);
        }
        out.append(" back ").append(x.call("back"));
        lookAtCoins(x, out);
        return out.toString();
    }

    private static void lookAtCoins(Town x, StringBuilder out) {
        for (int what = 0; what < 6; what++) {
            out.append(' ').append(x.call("count", what));
        }
        int sorts = x.call("count", 0);
        for (int s = 0; s < sorts; s++) {
            out.append(" sort");
            for (int what = 0; what < 3; what++) {
                out.append(' ').append(x.call("told", s, what));
            }
        }
        for (int p = 0; p < x.call("count", 1); p++) {
            out.append(" purse");
            for (int s = 0; s < sorts; s++) {
                out.append(' ').append(x.call("of", p, s));
            }
        }
    }

    private static void lookAtLaws(Town x, StringBuilder out) {
        int law = x.call("count", 4);
        for (int t = 0; t < x.call("count", 3); t++) {
            x.call("force", t);
            lookAtLaw(x, out);
        }
        int read = x.call("text");
        out.append(" text ").append(read);
        if (x.call("force", read) >= 0) {
            lookAtLaw(x, out);
        }
        x.call("force", law);
    }

    private static void lookAtLaw(Town x, StringBuilder out) {
        out.append(" law");
        for (int part = 0; part < 3; part++) {
            out.append(' ').append(x.call("asks", part, 123, 4, 305));
        }
    }

    private static void lookAtSheet(Town x, int s, StringBuilder out) {
        if (x.call("cell", s, -1, 0) == -11) {
            out.append(" missing:");
            return;
        }
        int sort = 0;
        while (sort < 2 && x.call("coinsBy", s, sort, 0, 0) == -13) {
            sort++;
        }
        int size = 0;
        for (int step = 32; step > 0; step /= 2) {
            size = x.call("copy", s, 0, s, 0, size + step) >= 0 ? size + step : size;
        }
        out.append(" sheet of sort ").append(sort).append(", size ").append(size).append(':');
        x.call("purse");
        x.call("sort", 0, 0, 0);
        if (s == 3) {
            out.append(" sets ").append(x.call("coinsBy", 3, sort, 0, Math.min(10, size / 3)));
            lookAtCoins(x, out);
            return;
        }
        x.call("sheet", 3, sort, 3);
        for (int i = 0; i < size; i = i == 8 && size > 12 ? size - 3 : i + 1) {
            x.call("copy", s, i, 3, 2, 1);
            out.append(' ').append(x.call("coinsBy", 3, sort, 0, 1) == 1 ? String.valueOf(x.call("of", 0, 0)) : "?");
        }
    }
}
