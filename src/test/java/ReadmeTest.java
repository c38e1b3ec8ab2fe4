import java.lang.reflect.Method;
import java.lang.reflect.Modifier;
import java.nio.file.Files;
import java.nio.file.Path;
import java.util.Arrays;
import java.util.Set;
import java.util.TreeSet;
import java.util.regex.Matcher;
import java.util.regex.Pattern;

/** Does the calls that README.md shows, and compares each answer with the number that it tells there. */
public final class ReadmeTest {
    private static final Pattern CALL = Pattern.compile("x\\.(\\w+)\\(([-\\d, ]*)\\);\\s+// (-?\\d+)\\b.*");

    public static void main(String[] args) throws Exception {
        SearchMachine x = new SearchMachine();
        Set<String> shown = new TreeSet<>();
        for (String line : Files.readAllLines(Path.of("README.md"))) {
            Matcher call = CALL.matcher(line);
            if (call.matches()) {
                shown.add(call.group(1));
                Checks.due("README.md: " + line, answer(x, call.group(1), call.group(2)), Integer.parseInt(call.group(3)));
            } else {
                Checks.holds("README.md tells the answer in the line " + line, !line.startsWith("x."));
            }
        }
        for (Method method : SearchMachine.class.getDeclaredMethods()) {
            if (Modifier.isPublic(method.getModifiers())) {
                Checks.holds("README.md shows " + method.getName(), shown.contains(method.getName()));
            }
        }
        Checks.end("ReadmeTest");
    }

    private static int answer(SearchMachine x, String name, String told) throws Exception {
        Object[] numbers = Arrays.stream(told.split(",")).map(String::trim).filter(one -> !one.isEmpty())
            .map(Integer::valueOf).toArray();
        Class<?>[] types = new Class<?>[numbers.length];
        Arrays.fill(types, int.class);
        return (int) SearchMachine.class.getMethod(name, types).invoke(x, numbers);
    }
}
