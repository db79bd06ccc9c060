import java.io.IOException;
import java.nio.file.Files;
import java.nio.file.Path;
import java.util.Arrays;
import java.util.Set;
import java.util.TreeSet;
import java.util.regex.Matcher;
import java.util.regex.Pattern;

/** The calls in README.md answer what stands beside them, and no call of the face is left out. */
public final class ReadmeTest {
    private static final Pattern CALL =
            Pattern.compile("ward\\.(\\w+)\\(([-0-9, ]*)\\);\\s*// (?:-> (\\S+))?.*");

    public static void main(String[] args) throws IOException {
        WardRoster ward = new WardRoster();
        Set<String> shown = new TreeSet<>();
        for (String row : Files.readAllLines(Path.of("README.md"))) {
            if (row.startsWith("ward.")) {
                Matcher call = CALL.matcher(row);
                Expect.that("a call with an answer: " + row, call.matches());
                shown.add(call.group(1));
                String due = call.group(3) == null ? "null" : call.group(3);
                Expect.same(row, Face.answer(ward, call.group(1), valuesOf(call.group(2))), due);
            }
        }
        Set<String> face = new TreeSet<>();
        Arrays.stream(WardRoster.class.getDeclaredMethods())
                .filter(method -> java.lang.reflect.Modifier.isPublic(method.getModifiers()))
                .forEach(method -> face.add(method.getName()));
        Expect.same("the calls in README.md", shown.toString(), face.toString());
        Expect.end();
    }

    private static int[] valuesOf(String text) {
        if (text.isEmpty()) {
            return new int[0];
        }
        return Arrays.stream(text.split(", ")).mapToInt(Integer::parseInt).toArray();
    }
}
