import java.lang.reflect.Field;

/**
 * Promise 23, the answer "no": no run of calls leads to it, so what is held inside is spoilt by
 * hand here. Where the class holds its state otherwise one day, this test has to follow.
 */
public final class SoundnessTest {
    private static final Check CHECK = new Check();

    public static void main(String[] args) throws ReflectiveOperationException {
        soundAsMade();
        wordTwice();
        countOutOfBounds();
        pairOutOfBounds();
        CHECK.end("SoundnessTest");
    }

    private static Putitback threeWords() {
        Putitback x = new Putitback();
        x.give(55, 99);
        x.give(56, 1);
        x.give(123456, 50);
        return x;
    }

    private static Object inside(Object owner, String name) throws ReflectiveOperationException {
        Field field = owner.getClass().getDeclaredField(name);
        field.setAccessible(true);
        return field.get(owner);
    }

    private static int[] row(Putitback x, String name) throws ReflectiveOperationException {
        return (int[]) inside(inside(x, "book"), name);
    }

    private static void soundAsMade() {
        CHECK.yes("23: as made", threeWords().isSound());
    }

    private static void wordTwice() throws ReflectiveOperationException {
        for (int place = 0; place < 3; place++) {
            Putitback x = threeWords();
            row(x, "words")[place] = x.ofBook((place + 1) % 3, 0);
            CHECK.no("23: a word twice, at " + place, x.isSound());
        }
    }

    private static void countOutOfBounds() throws ReflectiveOperationException {
        for (int place = 0; place < 3; place++) {
            Putitback x = threeWords();
            row(x, "counts")[place] = 0;
            CHECK.no("23: count 0 at " + place, x.isSound());
            row(x, "counts")[place] = 100;
            CHECK.no("23: count 100 at " + place, x.isSound());
            row(x, "counts")[place] = 1;
            CHECK.yes("23: count 1 at " + place, x.isSound());
        }
    }

    private static void pairOutOfBounds() throws ReflectiveOperationException {
        for (int i = 0; i < 9; i++) {
            Putitback x = threeWords();
            int[] pairs = ((int[][]) inside(inside(x, "book"), "pairs"))[i / 3];
            pairs[i % 3] = -1;
            CHECK.no("23: pair -1", x.isSound());
            long unsound = x.digest();
            pairs[i % 3] = 10;
            CHECK.no("23: pair 10", x.isSound());
            pairs[i % 3] = 9;
            CHECK.yes("23: pair 9", x.isSound());
            CHECK.yes("25: the digest tells it", unsound != x.digest());
        }
    }
}
