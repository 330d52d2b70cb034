import java.io.IOException;
import java.lang.reflect.Field;
import java.lang.reflect.Method;
import java.lang.reflect.Modifier;
import java.nio.file.Files;
import java.nio.file.Path;
import java.util.List;
import java.util.regex.Matcher;
import java.util.regex.Pattern;
import java.util.stream.Stream;

/** README.md holds what it says: its example is run row by row, and it names all there is to use and to run. */
public final class ReadmeTest {
    private static final Pattern MAKING = Pattern.compile("HistoryJudge h = new HistoryJudge\\((.*)\\);");
    private static final Pattern ROW = Pattern.compile("h\\.(\\w+)\\((.*)\\); +// ([-\\w]+): .*");
    private static final Due DUE = new Due();

    public static void main(String[] args) throws IOException, ReflectiveOperationException {
        String readme = Files.readString(Path.of("README.md"));
        example(readme);
        namesTheFace(readme);
        namesTheTests(readme);
        DUE.end();
    }

    private static void example(String readme) throws ReflectiveOperationException {
        Matcher block = Pattern.compile("(?s)```java\n(.*?)```").matcher(readme);
        DUE.is("README.md has an example", block.find(), true);
        List<String> rows = block.group(1).lines().toList();
        Matcher making = MAKING.matcher(rows.get(0));
        DUE.is("its first row makes an object", making.matches(), true);
        int[] sizes = numbers(making.group(1));
        HistoryJudge h = new HistoryJudge(sizes[0], sizes[1]);
        for (String row : rows.subList(1, rows.size())) {
            Matcher call = ROW.matcher(row);
            DUE.is("a call and its answer: " + row, call.matches(), true);
            DUE.is(row, answer(h, call.group(1), numbers(call.group(2))), meant(call.group(3)));
        }
    }

    private static int[] numbers(String text) {
        return text.isEmpty() ? new int[0] : Stream.of(text.split(", ")).mapToInt(Integer::parseInt).toArray();
    }

    private static int answer(HistoryJudge h, String name, int[] numbers) throws ReflectiveOperationException {
        Class<?>[] types = new Class<?>[numbers.length];
        Object[] values = new Object[numbers.length];
        for (int place = 0; place < numbers.length; place++) {
            types[place] = int.class;
            values[place] = numbers[place];
        }
        Object answer = HistoryJudge.class.getMethod(name, types).invoke(h, values);
        return answer instanceof Boolean ? (answer.equals(true) ? 1 : 0) : (Integer) answer;
    }

    private static int meant(String word) throws ReflectiveOperationException {
        if (word.equals("true") || word.equals("false")) {
            return word.equals("true") ? 1 : 0;
        }
        return word.matches("-?\\d+") ? Integer.parseInt(word) : HistoryJudge.class.getField(word).getInt(null);
    }

    private static void namesTheFace(String readme) {
        for (Method method : HistoryJudge.class.getDeclaredMethods()) {
            if (Modifier.isPublic(method.getModifiers())) {
                DUE.is("README.md names " + method.getName(), readme.contains("`" + method.getName() + "("), true);
            }
        }
        for (Field constant : HistoryJudge.class.getFields()) {
            DUE.is("README.md names " + constant.getName(), readme.contains("`" + constant.getName() + "`"), true);
        }
    }

    private static void namesTheTests(String readme) throws IOException {
        DUE.is("README.md names .ci/run", readme.contains(".ci/run"), true);
        try (Stream<Path> files = Files.list(Path.of("src/test/java"))) {
            for (Path file : files.filter(path -> path.toString().endsWith("Test.java")).toList()) {
                String name = file.getFileName().toString().replace(".java", "");
                DUE.is("README.md names " + name, readme.contains("| `" + name + "` |"), true);
            }
        }
    }
}
