import java.io.IOException;
import java.lang.reflect.InvocationTargetException;
import java.lang.reflect.Method;
import java.lang.reflect.Modifier;
import java.nio.file.Files;
import java.nio.file.Path;
import java.util.ArrayList;
import java.util.Arrays;
import java.util.List;
import java.util.regex.Matcher;
import java.util.regex.Pattern;
import java.util.stream.Stream;

/** README.md says what is so: the answers of its example, each call of the face, each test. */
public final class ReadmeTest {
    private static final Check CHECK = new Check();
    private static final Pattern CALL =
            Pattern.compile("keyboard\\.(\\w+)\\(([-\\d, ]*)\\); +// (-?\\d+|\"[^\"]*\")(:.*)?");

    public static void main(String[] args) throws IOException, ReflectiveOperationException {
        String page = Files.readString(Path.of("README.md"));
        exampleAnswersSo(page);
        eachCallIsTold(page);
        eachTestIsTold(page);
        CHECK.end("ReadmeTest");
    }

    private static void exampleAnswersSo(String page) throws ReflectiveOperationException {
        int start = page.indexOf("```java\n") + 8;
        String[] rows = page.substring(start, page.indexOf("```", start)).split("\n");
        CHECK.same("the first row", rows[0], "Putitback keyboard = new Putitback();");
        Putitback keyboard = new Putitback();
        for (int i = 1; i < rows.length; i++) {
            Matcher row = CALL.matcher(rows[i]);
            if (row.matches()) {
                CHECK.same(rows[i], answer(keyboard, row.group(1), row.group(2)), row.group(3).replace("\"", ""));
            } else {
                CHECK.tell("a row that is no call with its answer: " + rows[i]);
            }
        }
        CHECK.yes("there are rows", rows.length > 5);
    }

    private static String answer(Putitback keyboard, String name, String numbers) throws ReflectiveOperationException {
        List<Object> given = new ArrayList<>();
        Matcher number = Pattern.compile("-?\\d+").matcher(numbers);
        while (number.find()) {
            given.add(Integer.valueOf(number.group()));
        }
        Class<?>[] types = new Class<?>[given.size()];
        Arrays.fill(types, int.class);
        try {
            return String.valueOf(Putitback.class.getMethod(name, types).invoke(keyboard, given.toArray()));
        } catch (InvocationTargetException e) {
            return "throws." + e.getCause().getClass().getSimpleName();
        }
    }

    private static void eachCallIsTold(String page) {
        for (Method method : Putitback.class.getDeclaredMethods()) {
            if (Modifier.isPublic(method.getModifiers())) {
                CHECK.yes("a row for " + method.getName(), page.matches("(?s).*\n\\| [^|]*`" + method.getName() + "\\(.*"));
            }
        }
    }

    private static void eachTestIsTold(String page) throws IOException {
        try (Stream<Path> files = Files.list(Path.of("src/test/java"))) {
            List<String> names = files.map(file -> file.getFileName().toString().replace(".java", "")).toList();
            for (String name : names) {
                CHECK.yes("README.md names " + name, page.contains("`" + name + "`"));
            }
            CHECK.yes("tests were found", names.contains("ReadmeTest"));
        }
    }
}
