import java.io.IOException;
import java.lang.reflect.Method;
import java.lang.reflect.Modifier;
import java.nio.file.Files;
import java.nio.file.Path;
import java.util.regex.Matcher;
import java.util.regex.Pattern;

/** What README.md says is so: its calls answer as it tells, it names each call, and the files it names are there. */
public final class ReadmeTest {
    private static final Checks CHECKS = new Checks();

    public static void main(String[] args) throws IOException, ReflectiveOperationException {
        String readme = Files.readString(Path.of("README.md"));
        callsAnswerAsTold(readme);
        eachCallIsNamed(readme);
        filesAreThere(readme);
        CHECKS.end();
    }

    private static void callsAnswerAsTold(String readme) throws ReflectiveOperationException {
        String example = readme.substring(readme.indexOf("```java"), readme.indexOf("## Tests"));
        HeadsetBands x = new HeadsetBands();
        Matcher line = Pattern.compile("(?m)^x\\.(\\w+)\\((.*)\\); +// (\\S+): ").matcher(example);
        int many = 0;
        while (line.find()) {
            many++;
            String got = String.valueOf(answer(x, line.group(1), line.group(2)));
            CHECKS.due("README: " + line.group() + "is answered by " + got, got.equals(line.group(3)), true);
        }
        CHECKS.due("README: each call has its answer", many, example.split("\nx\\.", -1).length - 1);
        CHECKS.due("README: there are calls", many > 10, true);
    }

    private static Object answer(HeadsetBands x, String name, String arguments) throws ReflectiveOperationException {
        String[] texts = arguments.split(", ");
        Object[] numbers = new Object[texts.length];
        for (int i = 0; i < texts.length; i++) {
            numbers[i] = Integer.parseInt(texts[i]);
        }
        return named(name).invoke(x, numbers);
    }

    private static Method named(String name) {
        for (Method method : HeadsetBands.class.getMethods()) {
            if (method.getName().equals(name)) {
                return method;
            }
        }
        throw new IllegalArgumentException(name);
    }

    private static void eachCallIsNamed(String readme) {
        for (Method method : HeadsetBands.class.getDeclaredMethods()) {
            if (Modifier.isPublic(method.getModifiers())) {
                String name = method.getName();
                CHECKS.due("README names " + name, readme.contains("`" + name + "`"), true);
            }
        }
    }

    private static void filesAreThere(String readme) {
        String[] files = {".ci/run", "NOTES.md", "src/main/java/HeadsetBands.java", "../shared/DOC.md",
            "../shared/LANGUAGE.md", "../shared/tests"};
        for (String file : files) {
            CHECKS.due("README names " + file, readme.contains(file), true);
            CHECKS.due("there is " + file, Files.exists(Path.of(file)), true);
        }
        Matcher test = Pattern.compile("java -cp build (\\w+)").matcher(readme);
        CHECKS.due("README names a test", test.find(), true);
        CHECKS.due("there is that test", Files.exists(Path.of("src/test/java", test.group(1) + ".java")), true);
    }
}
