import java.lang.reflect.Method;
import java.nio.file.Files;
import java.nio.file.Path;
import java.util.Arrays;
import java.util.regex.Matcher;
import java.util.regex.Pattern;

// Makes the calls of README.md's example and compares each answer with the one that is told beside it.
public final class ReadmeTests {
    private static final Pattern CALL = Pattern.compile("desk\\.(\\w+)\\(([^)]*)\\);\\s*// ([-\\w]+)");
    private static final Pattern ANY_CALL = Pattern.compile("desk\\.\\w+\\(");

    public static void main(String[] args) throws Exception {
        String text = Files.readString(Path.of("README.md"));
        int start = text.indexOf("```java");
        String example = text.substring(start, text.indexOf("```\n", start));
        ScoreDesk desk = new ScoreDesk();
        int calls = 0;
        int wrong = 0;
        for (Matcher m = CALL.matcher(example); m.find(); calls++) {
            String got = String.valueOf(answer(desk, m.group(1), m.group(2)));
            if (!got.equals(m.group(3))) {
                wrong++;
                System.out.println("README.md: " + m.group(1) + "(" + m.group(2) + ") answered " + got + ", told is " + m.group(3));
            }
        }
        if (calls == 0 || calls != ANY_CALL.matcher(example).results().count()) {
            wrong++;
            System.out.println("README.md: the example has a call without its answer, or none");
        }
        System.out.println(wrong == 0 ? "all answers are as told" : wrong + " faults");
        if (wrong != 0) {
            System.exit(1);
        }
    }

    private static Object answer(ScoreDesk desk, String name, String arguments) throws Exception {
        Object[] values = arguments.isEmpty() ? new Object[0]
                : Arrays.stream(arguments.split(", ")).map(Integer::valueOf).toArray();
        Class<?>[] types = new Class<?>[values.length];
        Arrays.fill(types, int.class);
        Method method = ScoreDesk.class.getMethod(name, types);
        return method.invoke(desk, values);
    }
}
