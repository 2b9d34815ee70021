import java.lang.reflect.Field;
import java.lang.reflect.Method;
import java.lang.reflect.Modifier;
import java.nio.file.Files;
import java.nio.file.Path;
import java.util.HashSet;
import java.util.List;
import java.util.Set;
import java.util.regex.Matcher;
import java.util.regex.Pattern;

/** What can be seen of ../shared/LANGUAGE.md from outside: the face, words that are ruled out, sizes, room. */
public final class RulesTest {
    private static final Due DUE = new Due("RulesTest");

    public static void main(String[] args) throws Exception {
        String source = Files.readString(Path.of("src/main/java/UnlikeCoins.java"));
        face();
        words(source.replaceAll("/\\*(?s:.*?)\\*/|//.*|\"[^\"\n]*\"", ""));
        sizes(source);
        room();
        DUE.end();
    }

    private static void face() {
        Set<String> open = new HashSet<>();
        for (Method m : UnlikeCoins.class.getDeclaredMethods()) {
            if (!Modifier.isPrivate(m.getModifiers()) && !m.isSynthetic()) {
                DUE.is("rule 1 public: " + m.getName(), m.getModifiers(), Modifier.PUBLIC);
                open.add(m.getName());
            }
        }
        DUE.is("rule 1 the face", open.size(), 39);
        for (Method m : UnlikeCoins.class.getDeclaredMethods()) {
            DUE.is("rule 1 another name: " + m.getName(), Modifier.isPrivate(m.getModifiers())
                && open.contains(m.getName()) ? 1 : 0, 0);
        }
        for (Field f : UnlikeCoins.class.getDeclaredFields()) {
            boolean constant = List.of("NONE", "BAD", "STATE", "FULL", "NO").contains(f.getName());
            DUE.is("rule 1 " + f.getName(), Modifier.isPublic(f.getModifiers()) ? 1 : 0, constant ? 1 : 0);
            DUE.is("rule 5 " + f.getName(), Modifier.isFinal(f.getModifiers()) || !Modifier.isStatic(f.getModifiers())
                ? 1 : 0, 1);
        }
        for (Class<?> inner : UnlikeCoins.class.getDeclaredClasses()) {
            DUE.is("rule 2 static", Modifier.isStatic(inner.getModifiers()) ? 1 : 0, 1);
            for (Method m : inner.getDeclaredMethods()) {
                DUE.is("rule 1 another name: " + m.getName(), open.contains(m.getName())
                    && Modifier.isPrivate(m.getModifiers()) ? 1 : 0, 0);
            }
        }
        DUE.is("rule 11 classes", UnlikeCoins.class.getDeclaredClasses().length + 1 <= 12 ? 1 : 0, 1);
    }

    private static void words(String code) {
        Matcher out = Pattern.compile("\\b(throw|throws|try|catch|synchronized|assert|Exact|hashCode|toString|var"
            + "|Object|Random|System\\.(?!arraycopy)|Thread|volatile|transient|native)\\b|->|::|@").matcher(code);
        DUE.all("rules 2, 6, 13", out.find() ? out.group() : "", "");
        Matcher imported = Pattern.compile("import (.*);").matcher(code);
        while (imported.find()) {
            DUE.all("rule 4", imported.group(1), "java.util.Arrays");
        }
        DUE.is("rule 1 no package", Pattern.compile("\\bpackage\\b").matcher(code).find() ? 1 : 0, 0);
    }

    private static void sizes(String source) {
        int longest = 0;
        int began = 0;
        String[] lines = source.split("\n");
        for (int i = 0; i < lines.length; i++) {
            if (lines[i].matches(" {4}( {4})?\\S.*\\) \\{")) {
                began = i;
            }
            if (lines[i].matches(" {4}( {4})?\\}")) {
                longest = Math.max(longest, i - began + 1);
            }
        }
        DUE.is("rule 11 the longest method, " + longest + " lines", longest <= 60 ? 1 : 0, 1);
    }

    private static void room() {
        com.sun.management.ThreadMXBean threads =
            (com.sun.management.ThreadMXBean) java.lang.management.ManagementFactory.getThreadMXBean();
        UnlikeCoins x = new UnlikeCoins();
        for (int s = 0; s < 6; s++) {
            x.sort(s, 1, 1);
        }
        Due.purse(x, 9, 9, 9, 9, 9, 9);
        Due.purse(x, 9, 9, 9, 9, 9, 9);
        Due.sheet(x, 0, 9);
        long before = threads.getThreadAllocatedBytes(Thread.currentThread().getId());
        for (int i = 0; i < 40; i++) {
            x.was(0, 0);
            x.wage(0, 4, 3, 0);
            x.best(0, 1, 3, 0);
            x.two(0, 4, 3, 0);
            x.price(0);
            x.lacks(3, 0);
            x.thief(0, 3, 0);
            x.mean(0, 20, 40, 0);
            x.film(1, 0, 12);
            x.image();
            x.back();
            x.pass();
        }
        long room = threads.getThreadAllocatedBytes(Thread.currentThread().getId()) - before;
        DUE.is("rule 12 room of 480 calls, " + room + " bytes", room < 20000 ? 1 : 0, 1);
    }
}
