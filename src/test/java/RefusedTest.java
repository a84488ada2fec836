import java.util.ArrayList;
import java.util.List;
import java.util.function.Supplier;
import java.util.function.ToLongFunction;

/**
 * «A method that throws an exception changes nothing. If several exceptions apply, the one that is
 * named first is thrown. What is asked changes nothing (knock() counts).» In each of the scenes.
 */
public final class RefusedTest {
    private static final Check CHECK = new Check();
    private static final String ARGUMENT = "throws.IllegalArgumentException";
    private static final String INDEX = "throws.IndexOutOfBoundsException";
    private static final String STATE = "throws.IllegalStateException";
    private static final int LEAST = Integer.MIN_VALUE;
    private static final int MOST = Integer.MAX_VALUE;

    private record Asked(String name, ToLongFunction<Putitback> call) {
    }

    private record Refused(String name, String due, ToLongFunction<Putitback> call) {
    }

    public static void main(String[] args) {
        Scenes.all().forEach((name, scene) -> {
            refusedInAnyState(name, scene);
            refusedInThatState(name, scene);
            asked(name, scene);
        });
        severalAtOnce();
        CHECK.end("RefusedTest");
    }

    private static void refusedInAnyState(String scene, Supplier<Putitback> make) {
        List<Refused> all = new ArrayList<>();
        int[] noWords = {LEAST, -1, 0, 10, 101, 909999, 1000000, 1111111, MOST};
        for (int word : noWords) {
            all.add(new Refused("2: give(" + word + ", 1)", ARGUMENT, x -> x.give(word, 1)));
            all.add(new Refused("3: forget(" + word + ")", ARGUMENT, x -> x.forget(word) ? 1 : 0));
            all.add(new Refused("12: cost(" + word + ", 1)", ARGUMENT, x -> x.cost(word, 1)));
            all.add(new Refused("12: cost(1, " + word + ")", ARGUMENT, x -> x.cost(1, word)));
            all.add(new Refused("17: putBacks(1, " + word + ")", ARGUMENT, x -> x.putBacks(1, word)));
        }
        outside(0, 100).forEach(n -> all.add(new Refused("2: give(11, " + n + ")", ARGUMENT, x -> x.give(11, n))));
        outside(0, 61).forEach(n -> all.add(new Refused("4: pass(" + n + ")", ARGUMENT, x -> x.pass(n))));
        outside(0, 10).forEach(n -> all.add(new Refused("6: tap(" + n + ")", ARGUMENT, x -> x.tap(n))));
        outside(-1, 10).forEach(n -> all.add(new Refused("18: house(" + n + ")", ARGUMENT, x -> x.house(n))));
        List.of(LEAST, -1).forEach(n -> all.add(new Refused("21: offer(" + n + ")", ARGUMENT, x -> x.offer(n))));
        outside(-1, 12).forEach(n -> {
            all.add(new Refused("8: choose(" + n + ")", INDEX, x -> x.choose(n)));
            all.add(new Refused("13: ofBook(" + n + ", 0)", INDEX, x -> x.ofBook(n, 0)));
            all.add(new Refused("13: ofBook(" + n + ", 5)", INDEX, x -> x.ofBook(n, 5)));
            all.add(new Refused("14: pair(" + n + ", 0)", INDEX, x -> x.pair(n, 0)));
            all.add(new Refused("14: pair(0, " + n + ")", INDEX, x -> x.pair(0, n)));
            all.add(new Refused("15: ofText(" + n + ", 0)", INDEX, x -> x.ofText(n, 0)));
            all.add(new Refused("15: ofText(" + n + ", 3)", INDEX, x -> x.ofText(n, 3)));
        });
        outside(-1, 3).forEach(n -> {
            all.add(new Refused("5: hand(" + n + ")", INDEX, x -> x.hand(n)));
            all.add(new Refused("16: ofHand(" + n + ", 0)", INDEX, x -> x.ofHand(n, 0)));
            all.add(new Refused("16: ofHand(" + n + ", 3)", INDEX, x -> x.ofHand(n, 3)));
            all.add(new Refused("16: ofHand(2, " + n + ")", ARGUMENT, x -> x.ofHand(2, n)));
            all.add(new Refused("17: putBacks(" + n + ", 1)", INDEX, x -> x.putBacks(n, 1)));
            all.add(new Refused("17: putBacks(" + n + ", 0)", INDEX, x -> x.putBacks(n, 0)));
            all.add(new Refused("22: wouldShow(" + n + ")", INDEX, x -> x.wouldShow(n)));
        });
        for (Refused one : all) {
            CHECK.leaves(one.name + " of " + scene, make, one.due, one.call);
        }
    }

    /** The least number, the last one below, the first one above, the largest number. */
    private static List<Integer> outside(int lastBelow, int firstAbove) {
        return List.of(LEAST, lastBelow, firstAbove, MOST);
    }

    private static void refusedInThatState(String scene, Supplier<Putitback> make) {
        Putitback x = make.get();
        int words = x.house(0);
        int written = x.house(2);
        boolean open = x.house(3) > 0;
        boolean canEnd = open && written < 12;
        boolean changed = written > 0 && x.ofText(written - 1, 0) != x.ofText(written - 1, 1);
        List<Refused> all = new ArrayList<>();
        all.add(new Refused("2: give(7, 1)", words < 12 ? "" : STATE, y -> y.give(7, 1)));
        all.add(new Refused("4: pass(60)", x.house(5) <= 939 ? "" : STATE, y -> y.pass(60)));
        all.add(new Refused("6: tap(9)", x.house(3) < 100000 ? "" : STATE, y -> y.tap(9)));
        all.add(new Refused("7: blank()", canEnd ? "" : STATE, Putitback::blank));
        all.add(new Refused("8: choose(0)", words == 0 ? INDEX : canEnd ? "" : STATE, y -> y.choose(0)));
        all.add(new Refused("8: choose of as much as there are", INDEX, y -> y.choose(words)));
        all.add(new Refused("9: putBack()", changed ? "" : STATE, Putitback::putBack));
        all.add(new Refused("10: erase()", open || written > 0 ? "" : STATE, Putitback::erase));
        all.add(new Refused("13: ofBook of as much as there are", INDEX, y -> y.ofBook(words, 0)));
        all.add(new Refused("14: pair of as much as there are", INDEX, y -> y.pair(words, words)));
        all.add(new Refused("15: ofText of as much as there are", INDEX, y -> y.ofText(written, 0)));
        all.add(new Refused("13: ofBook(0, -1)", words == 0 ? INDEX : ARGUMENT, y -> y.ofBook(0, -1)));
        all.add(new Refused("13: ofBook(0, 5)", words == 0 ? INDEX : ARGUMENT, y -> y.ofBook(0, 5)));
        all.add(new Refused("15: ofText(0, -1)", written == 0 ? INDEX : ARGUMENT, y -> y.ofText(0, -1)));
        all.add(new Refused("15: ofText(0, 3)", written == 0 ? INDEX : ARGUMENT, y -> y.ofText(0, 3)));
        for (Refused one : all) {
            if (one.due.isEmpty()) {
                Putitback called = make.get();
                CHECK.no(one.name + " of " + scene + " throws",
                        Check.answer(() -> one.call.applyAsLong(called)).startsWith("throws"));
            } else {
                CHECK.leaves(one.name + " of " + scene, make, one.due, one.call);
            }
        }
    }

    /** All that is asked, at each place that there is, and at places where there is none. */
    private static void asked(String scene, Supplier<Putitback> make) {
        List<Asked> all = new ArrayList<>();
        for (int i = -1; i <= 12; i++) {
            int one = i;
            for (int j = -1; j <= 5; j++) {
                int other = j;
                all.add(new Asked("13: ofBook(" + i + ", " + j + ")", x -> x.ofBook(one, other)));
                all.add(new Asked("15: ofText(" + i + ", " + j + ")", x -> x.ofText(one, other)));
                all.add(new Asked("16: ofHand(" + i + ", " + j + ")", x -> x.ofHand(one, other)));
                all.add(new Asked("14: pair(" + i + ", " + j + ")", x -> x.pair(one, other)));
            }
            all.add(new Asked("17: putBacks(" + i + ", 56)", x -> x.putBacks(one, 56)));
            all.add(new Asked("17: putBacks(" + i + ", 77)", x -> x.putBacks(one, 77)));
            all.add(new Asked("18: house(" + i + ")", x -> x.house(one)));
            all.add(new Asked("21: offer(" + i + ")", x -> x.offer(one)));
            all.add(new Asked("22: wouldShow(" + i + ")", x -> x.wouldShow(one)));
        }
        all.add(new Asked("12: cost(55, 56)", x -> x.cost(55, 56)));
        all.add(new Asked("12: cost(777777, 1)", x -> x.cost(777777, 1)));
        all.add(new Asked("19: text()", x -> x.text().length()));
        all.add(new Asked("20: typed()", x -> x.typed().length()));
        all.add(new Asked("23: isSound()", x -> x.isSound() ? 1 : 0));
        all.add(new Asked("25: digest()", Putitback::digest));
        for (Asked one : all) {
            Putitback fresh = make.get();
            String due = Check.answer(() -> one.call.applyAsLong(fresh));
            String again = Check.answer(() -> one.call.applyAsLong(fresh));
            CHECK.same(one.name + " again, of " + scene, again, due);
            CHECK.leaves(one.name + " of " + scene, make, due, one.call);
        }
    }

    /** Each pair of exceptions that apply at once: the one that is named first. */
    private static void severalAtOnce() {
        List<Refused> ofFull = List.of(
                new Refused("2: no word, and 12", ARGUMENT, x -> x.give(0, 1)),
                new Refused("2: no count, and 12", ARGUMENT, x -> x.give(7, 100)),
                new Refused("2: neither, and 12", ARGUMENT, x -> x.give(10, 0)),
                new Refused("4: no days, and the last day", ARGUMENT, x -> x.pass(61)),
                new Refused("6: no key, and six of them", ARGUMENT, x -> x.tap(10)),
                new Refused("8: no offer, and twelve words", INDEX, x -> x.choose(12)),
                new Refused("8: no offer below, and twelve words", INDEX, x -> x.choose(-1)),
                new Refused("13: no place, and nothing of it", INDEX, x -> x.ofBook(12, 5)),
                new Refused("13: no place below, and nothing of it", INDEX, x -> x.ofBook(-1, -1)),
                new Refused("15: no word, and nothing of it", INDEX, x -> x.ofText(12, 3)),
                new Refused("15: no word below, and nothing of it", INDEX, x -> x.ofText(-1, -1)),
                new Refused("16: no hand, and nothing of it", INDEX, x -> x.ofHand(3, 3)),
                new Refused("16: no hand below, and nothing of it", INDEX, x -> x.ofHand(-1, -1)),
                new Refused("17: no hand, and no word", INDEX, x -> x.putBacks(3, 0)),
                new Refused("17: no hand below, and no word", INDEX, x -> x.putBacks(-1, 1000000)));
        for (Refused one : ofFull) {
            CHECK.leaves(one.name, Scenes::fullOfAll, one.due, one.call);
        }
        CHECK.leaves("8: no offer, and no key", Scenes::lastDay, INDEX, x -> x.choose(2));
        CHECK.leaves("8: no offer, no book, and no key", Putitback::new, INDEX, x -> x.choose(0));
        CHECK.leaves("21: below 0, and no key", Scenes::lastDay, ARGUMENT, x -> x.offer(-1));
        CHECK.leaves("22: no hand, and no key", Scenes::lastDay, INDEX, x -> x.wouldShow(3));
    }
}
