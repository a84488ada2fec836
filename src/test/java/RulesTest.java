import java.io.IOException;
import java.lang.reflect.Constructor;
import java.lang.reflect.Field;
import java.lang.reflect.Method;
import java.lang.reflect.Modifier;
import java.nio.file.Files;
import java.nio.file.Path;
import java.util.ArrayList;
import java.util.List;
import java.util.Set;
import java.util.TreeSet;
import java.util.regex.Matcher;
import java.util.regex.Pattern;

/** The face of the document, and the rules of LANGUAGE.md that can be read off the source. */
public final class RulesTest {
    private static final Check CHECK = new Check();
    private static final Path SOURCE = Path.of("src/main/java/Putitback.java");

    private static final List<String> FACE = List.of(
        "int give(int,int) IllegalArgumentException IllegalStateException",
        "boolean forget(int) IllegalArgumentException",
        "int pass(int) IllegalArgumentException IllegalStateException",
        "int hand(int) IndexOutOfBoundsException",
        "int tap(int) IllegalArgumentException IllegalStateException",
        "int blank() IllegalStateException",
        "int choose(int) IndexOutOfBoundsException IllegalStateException",
        "int putBack() IllegalStateException",
        "int erase() IllegalStateException",
        "int send()",
        "int cost(int,int) IllegalArgumentException",
        "int ofBook(int,int) IndexOutOfBoundsException IllegalArgumentException",
        "int pair(int,int) IndexOutOfBoundsException",
        "int ofText(int,int) IndexOutOfBoundsException IllegalArgumentException",
        "int ofHand(int,int) IndexOutOfBoundsException IllegalArgumentException",
        "int putBacks(int,int) IndexOutOfBoundsException IllegalArgumentException",
        "int house(int) IllegalArgumentException",
        "String text()",
        "String typed()",
        "int offer(int) IllegalArgumentException",
        "int wouldShow(int) IndexOutOfBoundsException",
        "boolean isSound()",
        "int knock()",
        "long digest()");

    /** What stands nowhere in the part of Java that LANGUAGE.md leaves, as patterns, with its rule. */
    private static final List<String> FORBIDDEN = List.of(
        "2: a method reference", "::",
        "2: a lambda", "(?m)^(?!\\s*(case\\b|default\\b)).*->",
        "3: another type", "\\bObject\\b",
        "4: another import", "(?m)^import (?!java\\.util\\.(ArrayList|List|Iterator|Arrays|NoSuchElementException);)",
        "4: another function", "\\b(String\\.valueOf|String\\.format|Math\\.\\w+Exact|Math\\.random)\\b",
        "4: more than arraycopy", "\\bSystem\\.(?!arraycopy\\b)",
        "5: a static block", "\\bstatic\\s*\\{",
        "5: static, but not final", "(?m)^\\s*(private |public )?static (?!final |class |abstract |record |enum |interface )"
                + "[^(]*[;=]",
        "6: left out of the language", "\\b(synchronized|assert|finally|hashCode|toString\\(\\) \\{)",
        "6: caught what the machine throws", "\\bcatch \\((Exception|Throwable|Error|RuntimeException|NullPointer"
                + "|ArrayIndex|StringIndex|ClassCast|NegativeArray|ArrayStore)",
        "9: a loop without an end", "while \\(true\\)|for \\(;;\\)",
        "10: texts joined by +", "\"\\s*\\+|\\+\\s*\"",
        "13: time, chance, the world", "\\b(Random|Thread|File|Files|Path|Instant|LocalDate)\\b");

    public static void main(String[] args) throws IOException {
        faceIsThatOfTheDocument();
        nothingElseIsSeen();
        String source = Files.readString(SOURCE);
        forbiddenWordsAreAbsent(source);
        methodsAreShort(source);
        signsArePlain(source);
        CHECK.end("RulesTest");
    }

    private static String told(Method method) {
        List<String> types = new ArrayList<>();
        for (Class<?> type : method.getParameterTypes()) {
            types.add(type.getSimpleName());
        }
        StringBuilder all = new StringBuilder(method.getReturnType().getSimpleName());
        all.append(' ').append(method.getName()).append('(').append(String.join(",", types)).append(')');
        for (Class<?> thrown : method.getExceptionTypes()) {
            all.append(' ').append(thrown.getSimpleName());
        }
        return all.toString();
    }

    private static void faceIsThatOfTheDocument() {
        Set<String> seen = new TreeSet<>();
        for (Method method : Putitback.class.getDeclaredMethods()) {
            if (Modifier.isPublic(method.getModifiers())) {
                seen.add(told(method));
            }
        }
        CHECK.same("the face", String.join("\n", seen), String.join("\n", new TreeSet<>(FACE)));
        CHECK.yes("the class is public and final",
                Modifier.isPublic(Putitback.class.getModifiers()) && Modifier.isFinal(Putitback.class.getModifiers()));
        Constructor<?>[] constructors = Putitback.class.getDeclaredConstructors();
        CHECK.same("constructors", constructors.length, 1);
        CHECK.yes("it is public", Modifier.isPublic(constructors[0].getModifiers()));
        CHECK.same("its parameters", constructors[0].getParameterCount(), 0);
    }

    private static void nothingElseIsSeen() {
        Set<String> names = new TreeSet<>();
        FACE.forEach(row -> names.add(row.replaceAll("^\\S+ |\\(.*$", "")));
        List<Class<?>> classes = new ArrayList<>(List.of(Putitback.class.getDeclaredClasses()));
        for (Class<?> inside : classes) {
            int modifiers = inside.getModifiers();
            CHECK.yes("rule 1: " + inside + " is not public", !Modifier.isPublic(modifiers) && !Modifier.isProtected(modifiers));
        }
        CHECK.yes("rule 11: some twelve classes", classes.size() <= 12);
        for (Field field : Putitback.class.getDeclaredFields()) {
            CHECK.yes("rule 1: " + field + " is private", Modifier.isPrivate(field.getModifiers()));
        }
        for (Method method : Putitback.class.getDeclaredMethods()) {
            int modifiers = method.getModifiers();
            CHECK.yes("rule 1: " + method + " is public or private", Modifier.isPublic(modifiers) || Modifier.isPrivate(modifiers));
        }
        classes.add(Putitback.class);
        classes.forEach(one -> membersKeepToTheRules(one, names));
    }

    private static void membersKeepToTheRules(Class<?> one, Set<String> names) {
        int fields = 0;
        for (Field field : one.getDeclaredFields()) {
            boolean isStatic = Modifier.isStatic(field.getModifiers());
            CHECK.yes("rule 5: " + field + " is final if static", !isStatic || Modifier.isFinal(field.getModifiers()));
            fields += isStatic ? 0 : 1;
        }
        CHECK.yes("rule 11: " + one + " has some twenty fields", fields <= 20);
        for (Method method : one.getDeclaredMethods()) {
            CHECK.no("rule 1: " + method + " bears a name of the face",
                    Modifier.isPrivate(method.getModifiers()) && names.contains(method.getName()));
            CHECK.yes("rule 11: " + method + " has seven parameters at most", method.getParameterCount() <= 7);
        }
    }

    private static void forbiddenWordsAreAbsent(String source) {
        String code = source.replaceAll("(?s)/\\*.*?\\*/", "").replaceAll("//.*", "");
        for (int i = 0; i + 1 < FORBIDDEN.size(); i += 2) {
            Matcher found = Pattern.compile(FORBIDDEN.get(i + 1)).matcher(code);
            if (found.find()) {
                CHECK.tell("rule " + FORBIDDEN.get(i) + ": " + found.group().trim());
            }
        }
        Matcher thrown = Pattern.compile("throw [^;]*;").matcher(code);
        Pattern fine = Pattern.compile("throw new (IllegalState|IllegalArgument|IndexOutOfBounds|Arithmetic"
                + "|UnsupportedOperation|NoSuchElement|Runtime)(Exception)\\((\"[^\"]*\")?\\);");
        while (thrown.find()) {
            CHECK.yes("rule 6: a written throw: " + thrown.group(), fine.matcher(thrown.group()).matches());
        }
    }

    private static void methodsAreShort(String source) {
        int start = 0;
        int number = 0;
        for (String row : source.split("\n")) {
            number++;
            if (row.matches("( {4}| {8})[a-z].*\\) ?(throws .*)?\\{")) {
                start = number;
            }
            if (row.matches("( {4}| {8})\\}")) {
                CHECK.yes("at most sixty rows up to " + number, start == 0 || number - start < 60);
            }
        }
        CHECK.yes("methods were found", start > 0);
    }

    private static void signsArePlain(String source) {
        CHECK.yes("signs 1 to 127", source.chars().allMatch(c -> c >= 1 && c <= 127));
    }
}
