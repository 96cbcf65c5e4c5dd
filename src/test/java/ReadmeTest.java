import java.io.IOException;
import java.lang.reflect.Method;
import java.nio.file.Files;
import java.nio.file.Path;
import java.util.Arrays;
import java.util.Set;
import java.util.TreeSet;
import java.util.regex.Matcher;
import java.util.regex.Pattern;

/** The example in README.md answers what stands beside each call, and leaves no call out. */
public final class ReadmeTest {
    private static final Pattern CALL = Pattern.compile("cache\\.(\\w+)\\(([-\\d, ]+)\\);\\s*// (-?\\d+)\\b.*");

    public static void main(String[] args) throws IOException, ReflectiveOperationException {
        SlabCache cache = new SlabCache();
        Set<String> shown = new TreeSet<>();
        for (String line : Files.readAllLines(Path.of("README.md"))) {
            Matcher call = CALL.matcher(line);
            if (call.matches()) {
                shown.add(call.group(1));
                dueCall(cache, call);
            } else if (line.startsWith("cache.")) {
                Checks.fault("README.md: not a call with its answer: " + line);
            }
        }
        for (Method method : SlabCache.class.getMethods()) {
            if (method.getDeclaringClass() == SlabCache.class && !shown.contains(method.getName())) {
                Checks.fault("README.md shows no " + method.getName());
            }
        }
        Checks.finish();
    }

    private static void dueCall(SlabCache cache, Matcher call) throws ReflectiveOperationException {
        Object[] words = Arrays.stream(call.group(2).split(",")).map(word -> Integer.valueOf(word.trim())).toArray();
        Class<?>[] types = new Class<?>[words.length];
        Arrays.fill(types, int.class);
        Object answer = SlabCache.class.getMethod(call.group(1), types).invoke(cache, words);
        String shown = call.group(1) + "(" + call.group(2) + ")";
        Checks.due("README.md: " + shown, (Integer) answer, Integer.parseInt(call.group(3)));
    }
}
