import java.io.IOException;
import java.lang.management.ManagementFactory;
import java.lang.reflect.Field;
import java.lang.reflect.Method;
import java.lang.reflect.Modifier;
import java.nio.file.Files;
import java.nio.file.Path;
import java.util.Arrays;
import java.util.List;
import java.util.Set;
import java.util.TreeSet;
import java.util.regex.Matcher;
import java.util.regex.Pattern;

/** What of LANGUAGE.md can be seen by a machine, and that a run of calls stays small. Runs in the project's root. */
public final class LanguageTest {
    private static final String FACE = "tone sets loud burst run restart keep again source band dealt code dealtBy cost"
        + " least coded worst paired share damaged heard spectrum madeUp line packet played late delays would count";
    private static int wrong = 0;

    private static void must(boolean so, String what) {
        if (!so) {
            wrong++;
            System.out.println("not so: " + what);
        }
    }

    public static void main(String[] args) throws IOException {
        String source = Files.readString(Path.of("src/main/java/HeadsetBands.java"));
        words(source);
        lengths(source);
        face();
        classes();
        room();
        System.out.println(wrong == 0 ? "the rules are kept" : wrong + " rules are broken");
        if (wrong != 0) {
            System.exit(1);
        }
    }

    private static void words(String source) {
        String bare = source.replaceAll("(?s)/\\*.*?\\*/", "").replaceAll("//[^\n]*", "");
        String[] forbidden = {"\\bthrow\\b", "\\bthrows\\b", "\\btry\\b", "\\bcatch\\b", "\\bsynchronized\\b",
            "\\bassert\\b", "->", "::", "\\bpackage\\b", "Exact\\b", "\\bnative\\b", "\\bvolatile\\b", "\\bThread\\b",
            "currentTimeMillis", "nanoTime", "\\bRandom\\b", "\\bdouble\\b", "\\bfloat\\b", "\\bhashCode\\b",
            "\\btoString\\b", "\\bprotected\\b", "\\bstatic\\s*\\{"};
        for (String word : forbidden) {
            must(!Pattern.compile(word).matcher(bare).find(), "the source is without " + word);
        }
        Set<String> library = new TreeSet<>();
        Matcher calls = Pattern.compile("\\b(Math|Arrays|System|Integer|Long|String|List)\\.(\\w+)").matcher(bare);
        while (calls.find()) {
            library.add(calls.group());
        }
        library.removeAll(Set.of("Math.abs", "Math.max", "Math.min", "Math.floorMod", "Math.floorDiv", "Arrays.fill",
            "System.arraycopy"));
        must(library.isEmpty(), "no other library: " + library);
        must(source.chars().allMatch(c -> c == '\n' || (c >= 32 && c < 127)), "plain signs alone");
        must(Pattern.compile("^import ", Pattern.MULTILINE).matcher(source).results().count() == 1, "one import");
    }

    private static void lengths(String source) {
        String[] lines = source.split("\n");
        int start = -1;
        for (int i = 0; i < lines.length; i++) {
            if (lines[i].matches("( {4}| {8})[a-zA-Z].*\\) \\{")) {
                start = i;
            }
            if (start >= 0 && lines[i].matches("( {4}| {8})\\}")) {
                must(i - start <= 60, "short: " + lines[start].trim());
                start = -1;
            }
        }
    }

    private static void face() {
        Set<String> due = new TreeSet<>(Arrays.asList(FACE.split(" ")));
        Set<String> got = new TreeSet<>();
        for (Method m : HeadsetBands.class.getDeclaredMethods()) {
            if (!Modifier.isPrivate(m.getModifiers()) && !m.isSynthetic()) {
                must(Modifier.isPublic(m.getModifiers()) && !Modifier.isStatic(m.getModifiers()), "public: " + m);
                must(got.add(m.getName()), "once: " + m);
            } else {
                must(!due.contains(m.getName()), "a name of its own: " + m);
            }
        }
        must(due.equals(got), "the face is " + due + ", not " + got);
        for (Field f : HeadsetBands.class.getDeclaredFields()) {
            must(Modifier.isPrivate(f.getModifiers()) || f.getName().equals("NONE"), "private: " + f);
        }
        must(Modifier.isFinal(HeadsetBands.class.getModifiers()), "final");
        must(HeadsetBands.class.getDeclaredConstructors().length == 1, "one constructor");
    }

    private static void classes() {
        List<String> face = Arrays.asList(FACE.split(" "));
        Class<?>[] inside = HeadsetBands.class.getDeclaredClasses();
        must(inside.length < 12, "at most twelve classes: " + inside.length);
        for (Class<?> c : inside) {
            must(Modifier.isStatic(c.getModifiers()), "static: " + c);
            for (Method m : c.getDeclaredMethods()) {
                must(!face.contains(m.getName()), "a name of its own: " + m);
            }
        }
        for (Class<?> c : HeadsetBands.class.getNestMembers()) {
            long fields = Arrays.stream(c.getDeclaredFields()).filter(f -> !Modifier.isStatic(f.getModifiers())).count();
            must(fields <= 20, "twenty fields: " + c);
            for (Field f : c.getDeclaredFields()) {
                must(!Modifier.isStatic(f.getModifiers()) || Modifier.isFinal(f.getModifiers()), "final: " + f);
            }
            for (Method m : c.getDeclaredMethods()) {
                must(m.getParameterCount() <= 7, "seven parameters: " + m);
            }
        }
    }

    /** A row is made once: 512 calls, dear ones among them, take what a handful of states take. */
    private static void room() {
        var thread = (com.sun.management.ThreadMXBean) ManagementFactory.getThreadMXBean();
        long id = Thread.currentThread().getId();
        long before = thread.getThreadAllocatedBytes(id);
        HeadsetBands x = new HeadsetBands();
        x.sets(5, 30);
        for (int i = 0; i < 500; i++) {
            switch (i % 10) {
                case 0: x.run(190); break;
                case 1: x.keep(i / 10 % 2); break;
                case 2: x.would(100, 0); break;
                case 3: x.least(i % 2, 0); break;
                case 4: x.coded(128, 0, 1, 2); break;
                case 5: x.madeUp(0, 2); break;
                case 6: x.spectrum(0, 0); break;
                case 7: x.damaged(3, 50); break;
                case 8: x.again(i / 10 % 2); break;
                default: x.worst(128, 0, 0); break;
            }
        }
        long bytes = thread.getThreadAllocatedBytes(id) - before;
        must(bytes < 400000, "a run is made of some " + bytes + " bytes");
    }
}
