import java.io.IOException;
import java.lang.reflect.InvocationTargetException;
import java.lang.reflect.Method;
import java.net.URI;
import java.net.URL;
import java.net.URLClassLoader;
import java.nio.file.Files;
import java.nio.file.Path;
import java.util.Comparator;
import java.util.List;
import java.util.stream.Stream;
import javax.tools.JavaCompiler;
import javax.tools.SimpleJavaFileObject;
import javax.tools.ToolProvider;

/**
 * A keyboard made of the class's source with one place of it spoilt: for answers that no run of
 * calls leads to, as long as the class does what the document says.
 */
final class Spoilt {
    private static final Path SOURCE = Path.of("src/main/java/Putitback.java");

    private final Object keyboard;

    private Spoilt(Object keyboard) {
        this.keyboard = keyboard;
    }

    /** Makes keyboards of one spoilt source. */
    interface Maker {
        Spoilt make();
    }

    /** Null, if the source has no such place (then it is written otherwise by now), or has it twice. */
    static Maker of(String place, String instead) throws IOException, ReflectiveOperationException {
        String source = Files.readString(SOURCE);
        int at = source.indexOf(place);
        if (at < 0 || source.indexOf(place, at + 1) >= 0) {
            return null;
        }
        Class<?> spoilt = compile(source.replace(place, instead));
        return () -> made(spoilt);
    }

    private static Spoilt made(Class<?> spoilt) {
        try {
            return new Spoilt(spoilt.getDeclaredConstructor().newInstance());
        } catch (ReflectiveOperationException e) {
            throw new IllegalStateException(e);
        }
    }

    private static Class<?> compile(String source) throws IOException, ReflectiveOperationException {
        JavaCompiler compiler = ToolProvider.getSystemJavaCompiler();
        Path out = Files.createTempDirectory("spoilt");
        try {
            SimpleJavaFileObject text = new SimpleJavaFileObject(
                    URI.create("string:///Putitback.java"), SimpleJavaFileObject.Kind.SOURCE) {
                @Override
                public CharSequence getCharContent(boolean ignoreEncodingErrors) {
                    return source;
                }
            };
            if (!compiler.getTask(null, null, null, List.of("-d", out.toString()), null, List.of(text)).call()) {
                throw new IllegalStateException("the spoilt source does not compile");
            }
            return loaded(out);
        } finally {
            remove(out);
        }
    }

    /** With all the classes inside it, as the place on the disk goes at once. */
    private static Class<?> loaded(Path out) throws IOException, ReflectiveOperationException {
        URL[] place = {out.toUri().toURL()};
        try (URLClassLoader loader = new URLClassLoader(place, null)) {
            Class<?> outer = loader.loadClass("Putitback");
            for (Class<?> inside : outer.getDeclaredClasses()) {
                Class.forName(inside.getName(), true, loader);
            }
            outer.getDeclaredConstructor().newInstance();
            return outer;
        }
    }

    private static void remove(Path folder) throws IOException {
        try (Stream<Path> all = Files.walk(folder)) {
            for (Path one : all.sorted(Comparator.reverseOrder()).toList()) {
                Files.delete(one);
            }
        }
    }

    /** The answer as a number; a boolean counts 1 or 0. */
    long call(String name, int... arguments) {
        try {
            for (Method method : keyboard.getClass().getMethods()) {
                if (method.getName().equals(name) && method.getParameterCount() == arguments.length) {
                    Object[] given = new Object[arguments.length];
                    for (int i = 0; i < given.length; i++) {
                        given[i] = arguments[i];
                    }
                    Object answer = method.invoke(keyboard, given);
                    return answer instanceof Boolean ? ((Boolean) answer ? 1 : 0) : ((Number) answer).longValue();
                }
            }
        } catch (IllegalAccessException | InvocationTargetException e) {
            throw new IllegalStateException(name, e);
        }
        throw new IllegalStateException("no method " + name);
    }

    boolean isSound() {
        return call("isSound") == 1;
    }

    void giveAll(int... words) {
        for (int word : words) {
            call("give", word, 1);
        }
    }

    /** Types a word of one key, chooses that offer, and puts the word back. */
    void mend(int key, int nth) {
        call("tap", key);
        call("choose", nth);
        call("putBack");
        call("send");
    }
}
