import java.math.BigInteger;
import java.util.ArrayList;
import java.util.List;
import java.util.function.ToIntFunction;

/** Promise 25: «d becomes d * 31 + v, which wraps around as a 64-bit integer», number by number. */
public final class DigestTest {
    private static final Check CHECK = new Check();
    private static final BigInteger TWO_TO_64 = BigInteger.ONE.shiftLeft(64);
    private static final BigInteger LARGEST = BigInteger.valueOf(Long.MAX_VALUE);

    public static void main(String[] args) {
        itChangesNothing();
        eachScene();
        itWrapsAround();
        ofAnEmptyBookNoWorths();
        eachNumberCounts();
        CHECK.end("DigestTest");
    }

    /** The numbers in the order that the document tells; below 300 calls, as the object has 512. */
    private static List<Integer> numbers(Putitback x) {
        List<Integer> all = new ArrayList<>();
        add(all, 10, x::house);
        int words = x.house(0);
        for (int place = 0; place < words; place++) {
            int one = place;
            add(all, 5, what -> x.ofBook(one, what));
            add(all, words, other -> x.pair(one, other));
        }
        for (int at = 0; at < x.house(2); at++) {
            int one = at;
            add(all, 3, what -> x.ofText(one, what));
        }
        for (int hand = 0; hand < 3; hand++) {
            int one = hand;
            add(all, 3, what -> x.ofHand(one, what));
            all.add(x.wouldShow(hand));
        }
        add(all, 4, x::offer);
        all.add(x.text().length());
        all.add(x.isSound() ? 1 : 0);
        return all;
    }

    private interface Row {
        int at(int index);
    }

    private static void add(List<Integer> all, int size, Row row) {
        for (int i = 0; i < size; i++) {
            all.add(row.at(i));
        }
    }

    /** Without any wrapping around; that is done at the end, once. */
    private static BigInteger endless(List<Integer> numbers) {
        BigInteger d = BigInteger.valueOf(3391);
        for (int v : numbers) {
            d = d.multiply(BigInteger.valueOf(31)).add(BigInteger.valueOf(v));
        }
        return d;
    }

    private static long wrapped(BigInteger d) {
        BigInteger rest = d.mod(TWO_TO_64);
        return rest.compareTo(LARGEST) > 0 ? rest.subtract(TWO_TO_64).longValueExact() : rest.longValueExact();
    }

    private static void itChangesNothing() {
        Scenes.all().forEach((name, scene) ->
                CHECK.leaves("25: of " + name, scene, "" + scene.get().digest(), Putitback::digest));
    }

    private static void eachScene() {
        Scenes.all().forEach((name, scene) ->
                CHECK.same("25: of " + name, scene.get().digest(), wrapped(endless(numbers(scene.get())))));
    }

    /** The number would be beyond 64 bits at any time; some of the answers are below 0 by that. */
    private static void itWrapsAround() {
        int below = 0;
        Putitback x = new Putitback();
        for (int i = 0; i < 12; i++) {
            BigInteger d = endless(numbers(x));
            CHECK.yes("25: beyond 64 bits", d.bitLength() > 64);
            CHECK.same("25: wrapped around", x.digest(), wrapped(d));
            below += x.digest() < 0 ? 1 : 0;
            x.knock();
        }
        CHECK.yes("25: some are below 0", below > 0 && below < 12);
    }

    private static void ofAnEmptyBookNoWorths() {
        Putitback x = new Putitback();
        CHECK.same("25: numbers of a new one", numbers(x).size(), 10 + 3 * 4 + 4 + 2);
        Putitback y = Scenes.fullOfAll();
        CHECK.same("25: numbers when all is full", numbers(y).size(), 10 + 12 * (5 + 12) + 12 * 3 + 3 * 4 + 4 + 2);
    }

    /** Two keyboards that differ in one number that can be asked have other digests. */
    private static void eachNumberCounts() {
        List<ToIntFunction<Putitback>> changes = List.of(
                Putitback::knock, x -> x.hand(0), x -> x.tap(1), x -> x.give(55, 60), x -> x.give(56, 1),
                x -> x.pass(1), x -> x.forget(1) ? 1 : 0, Putitback::blank, x -> x.choose(2), Putitback::putBack,
                Putitback::erase, Putitback::send);
        for (int i = 0; i < changes.size(); i++) {
            Putitback x = Scenes.busy();
            long before = x.digest();
            changes.get(i).applyAsInt(x);
            CHECK.yes("25: change " + i + " is told", x.digest() != before);
            CHECK.same("25: after change " + i, x.digest(), wrapped(endless(numbers(x))));
        }
    }
}
