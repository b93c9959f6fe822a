import java.io.IOException;
import java.lang.reflect.Method;
import java.nio.file.Files;
import java.nio.file.Path;
import java.util.regex.Matcher;
import java.util.regex.Pattern;

/** README.md's run of calls, each with its answer. */
public final class ReadmeTest {
    private static final Due due = new Due("ReadmeTest");
    private static final String FIRST = "GlacierYears x = new GlacierYears();";
    private static final Pattern CALL = Pattern.compile("x\\.(\\w+)\\(([^)]*)\\);\\s+// (-?\\d+)\\b.*");

    public static void main(String[] args) throws IOException, ReflectiveOperationException {
        String readme = Files.readString(Path.of("README.md"));
        String[] blocks = readme.split("```");
        int runs = 0;
        for (int i = 1; i < blocks.length; i += 2) {
            if (blocks[i].startsWith("java\n")) {
                run(blocks[i].substring("java\n".length()).split("\n"));
                runs++;
            }
        }
        due.is("runs of calls", runs, 1);
        due.holds("how its tests are run", readme.contains("`.ci/run`"));
        due.end();
    }

    private static void run(String[] lines) throws ReflectiveOperationException {
        due.holds("an object is made first", lines[0].equals(FIRST));
        GlacierYears x = new GlacierYears();
        for (int i = 1; i < lines.length; i++) {
            Matcher call = CALL.matcher(lines[i]);
            boolean told = call.matches();
            due.holds("a call with its answer: " + lines[i], told);
            if (told) due.is(lines[i], answer(x, call.group(1), call.group(2)), Long.parseLong(call.group(3)));
        }
    }

    private static long answer(GlacierYears x, String name, String list) throws ReflectiveOperationException {
        String[] words = list.isEmpty() ? new String[0] : list.split(", ");
        for (Method m : GlacierYears.class.getMethods()) {
            if (!m.getName().equals(name)) continue;
            Object[] values = new Object[words.length];
            for (int i = 0; i < words.length; i++) values[i] = value(m.getParameterTypes()[i], words[i]);
            return ((Number) m.invoke(x, values)).longValue();
        }
        throw new NoSuchMethodException(name);
    }

    private static Object value(Class<?> type, String word) {
        if (type == boolean.class) return Boolean.valueOf(word);
        if (word.equals("GlacierYears.NONE")) return GlacierYears.NONE;
        if (type == long.class) return Long.valueOf(word.replace("L", ""));
        return Integer.valueOf(word);
    }
}
