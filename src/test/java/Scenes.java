import java.util.LinkedHashMap;
import java.util.Map;
import java.util.function.Supplier;

/** Keyboards in states that differ in all that a call can run into; each is made anew. */
final class Scenes {
    static final int[] TWELVE = {11, 22, 33, 44, 55, 66, 77, 88, 99, 111, 222, 333};

    private Scenes() {
    }

    static Map<String, Supplier<Putitback>> all() {
        Map<String, Supplier<Putitback>> all = new LinkedHashMap<>();
        all.put("a new one", Putitback::new);
        all.put("a busy one", Scenes::busy);
        all.put("a full book", Scenes::fullBook);
        all.put("a full text", Scenes::fullText);
        all.put("the last day", Scenes::lastDay);
        all.put("full of all", Scenes::fullOfAll);
        return all;
    }

    /** Given and learnt words, pairs, put backs, a changed word at the end, an open word. */
    static Putitback busy() {
        Putitback x = new Putitback();
        x.give(55, 9);
        x.give(1, 98);
        x.pass(3);
        Typist.learn(x, 56, 55);
        Typist.mend(x, 2, 54, 55, 2);
        x.knock();
        Typist.write(x, 55);
        Typist.write(x, 1);
        x.hand(1);
        Typist.write(x, 58);
        Typist.taps(x, 12);
        return x;
    }

    /** Twelve given words, so that none goes for another one; the open word is new. */
    static Putitback fullBook() {
        Putitback x = new Putitback();
        Typist.giveAll(x, TWELVE);
        Typist.write(x, 11);
        Typist.write(x, 23);
        Typist.taps(x, 8);
        return x;
    }

    /** Twelve words of the text, the last one changed, and six open keys. */
    static Putitback fullText() {
        Putitback x = new Putitback();
        x.give(55, 90);
        for (int i = 0; i < 11; i++) {
            Typist.write(x, 55);
        }
        x.hand(2);
        Typist.write(x, 52);
        Typist.taps(x, 123456);
        return x;
    }

    /** No key is open, the text is empty, and trust of a hand is below 3. */
    static Putitback lastDay() {
        Putitback x = new Putitback();
        x.give(55, 9);
        Typist.passTo(x, 999);
        Typist.learn(x, 56, 55);
        return x;
    }

    static Putitback fullOfAll() {
        Putitback x = new Putitback();
        Typist.giveAll(x, 11, 22, 33, 44, 55, 66, 77, 88, 99, 111, 222);
        Typist.passTo(x, 999);
        Typist.learn(x, 333, 11);
        for (int i = 0; i < 12; i++) {
            Typist.write(x, Scenes.TWELVE[i]);
        }
        Typist.taps(x, 999999);
        return x;
    }
}
