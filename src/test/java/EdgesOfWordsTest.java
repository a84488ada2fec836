import java.util.ArrayList;
import java.util.List;
import java.util.function.ToLongFunction;

/** Description 1, sentence by sentence: keys, words, near keys, what it costs (promise 12). */
public final class EdgesOfWordsTest {
    private static final Check CHECK = new Check();
    private static final int[] SMALLEST = {1, 11, 111, 1111, 11111, 111111};
    private static final int[] LARGEST = {9, 99, 999, 9999, 99999, 999999};

    public static void main(String[] args) {
        wordsOfOneToSixKeys();
        noWordOfNoKey();
        noWordOfSevenKeys();
        noWordWithAKey0();
        noWordBelow0();
        nearInARow();
        nearInAColumn();
        notNearFromRowToRow();
        notNearAtACorner();
        keysCostAtMostTwo();
        leftOutAndPutInCostTwoEach();
        changedOrLeftOutWhateverIsLess();
        theMostThatWordsCost();
        costOfAllShortWords();
        costOfWordsNotInTheBook();
        CHECK.end("EdgesOfWordsTest");
    }

    // Each way in which a word comes to the class, as a number that has to be a WORD.

    private record Way(String name, ToLongFunction<Putitback> call) {
    }

    private static List<Way> ways(int word) {
        return List.of(
                new Way("2: give(" + word + ", 1)", x -> x.give(word, 1)),
                new Way("3: forget(" + word + ")", x -> x.forget(word) ? 1 : 0),
                new Way("12: cost(" + word + ", 5)", x -> x.cost(word, 5)),
                new Way("12: cost(5, " + word + ")", x -> x.cost(5, word)),
                new Way("17: putBacks(0, " + word + ")", x -> x.putBacks(0, word)));
    }

    private static void isNoWord(int word) {
        for (Way way : ways(word)) {
            CHECK.leaves(way.name, Scenes::busy, "throws.IllegalArgumentException", way.call);
        }
    }

    private static void isAWord(int word) {
        for (Way way : ways(word)) {
            Putitback x = new Putitback();
            CHECK.no(way.name + " throws", Check.answer(() -> way.call.applyAsLong(x)).startsWith("throws"));
        }
        Putitback x = new Putitback();
        x.give(word, 1);
        CHECK.same("13: the word " + word, x.ofBook(0, 0), word);
        CHECK.same("7: typed and shown " + word, Typist.write(x, word), word);
    }

    /** «A WORD is a row of 1 to 6 KEYS, told as the number with these digits.» */
    private static void wordsOfOneToSixKeys() {
        for (int i = 0; i < 6; i++) {
            isAWord(SMALLEST[i]);
            isAWord(LARGEST[i]);
        }
        isAWord(123456);
        isAWord(987654);
    }

    private static void noWordOfNoKey() {
        isNoWord(0);
    }

    private static void noWordOfSevenKeys() {
        int[] words = {1000000, 1111111, 1234567, 9999999, 11111111, 111111111, Integer.MAX_VALUE};
        for (int word : words) {
            isNoWord(word);
        }
    }

    /** «KEYS are 1 to 9»: a 0 at each place of words of each length, and all of them but one. */
    private static void noWordWithAKey0() {
        for (int i = 1; i < 6; i++) {
            int power = 1;
            for (int place = 0; place < i; place++) {
                isNoWord(SMALLEST[i] - power);
                isNoWord(LARGEST[i] - 9 * power);
                power *= 10;
            }
            isNoWord(power);
            isNoWord(9 * power);
        }
    }

    private static void noWordBelow0() {
        int[] words = {-1, -9, -11, -55, -111111, -999999, -1111111, Integer.MIN_VALUE};
        for (int word : words) {
            isNoWord(word);
        }
    }

    // What keys cost.

    private static void costBothWays(int one, int other, int due) {
        Putitback x = new Putitback();
        CHECK.same("12: cost(" + one + ", " + other + ")", x.cost(one, other), due);
        CHECK.same("12: cost(" + other + ", " + one + ")", x.cost(other, one), due);
    }

    private static void costAllBothWays(int due, int[]... pairs) {
        for (int[] two : pairs) {
            costBothWays(two[0], two[1], due);
        }
    }

    /** «Two KEYS are NEAR, if they are beside each other in a row» */
    private static void nearInARow() {
        costAllBothWays(1, new int[][] {{1, 2}, {2, 3}, {4, 5}, {5, 6}, {7, 8}, {8, 9}});
        costAllBothWays(2, new int[][] {{1, 3}, {4, 6}, {7, 9}});
    }

    /** «or one directly above the other.» */
    private static void nearInAColumn() {
        costAllBothWays(1, new int[][] {{1, 4}, {2, 5}, {3, 6}, {4, 7}, {5, 8}, {6, 9}});
        costAllBothWays(2, new int[][] {{1, 7}, {2, 8}, {3, 9}});
    }

    /** The rows are of three keys: the next number in the next row is not beside. */
    private static void notNearFromRowToRow() {
        costAllBothWays(2, new int[][] {{3, 4}, {6, 7}, {1, 9}, {3, 7}, {1, 6}, {4, 9}});
    }

    private static void notNearAtACorner() {
        costAllBothWays(2, new int[][] {{1, 5}, {2, 4}, {2, 6}, {3, 5}, {4, 8}, {5, 7}, {5, 9}, {6, 8}});
    }

    /** «COST of two KEYS: 0 of one and itself, 1 if they are NEAR, otherwise 2.» */
    private static void keysCostAtMostTwo() {
        int[] howOften = new int[3];
        for (int one = 1; one <= 9; one++) {
            costBothWays(one, one, 0);
            Putitback x = new Putitback();
            for (int other = 1; other <= 9; other++) {
                int cost = x.cost(one, other);
                CHECK.yes("12: cost(" + one + ", " + other + ") is 0 to 2", cost >= 0 && cost <= 2);
                howOften[Math.max(0, Math.min(2, cost))]++;
            }
        }
        CHECK.same("12: keys that are one", howOften[0], 9);
        CHECK.same("12: near ones, both ways", howOften[1], 24);
        CHECK.same("12: others", howOften[2], 48);
    }

    // What words cost.

    /** «left out or put in (2 each)»: at the front, in the middle, at the end. */
    private static void leftOutAndPutInCostTwoEach() {
        for (int i = 0; i < 6; i++) {
            costBothWays(1, SMALLEST[i], 2 * i);
            costBothWays(111111, SMALLEST[i], 2 * (5 - i));
        }
        int[] oneLess = {23456, 13456, 12456, 12356, 12346, 12345};
        for (int word : oneLess) {
            costBothWays(123456, word, 2);
        }
        costBothWays(123456, 3456, 4);
        costBothWays(123456, 1256, 4);
        costBothWays(123456, 2345, 4);
        costBothWays(9, 912345, 10);
        costBothWays(9, 123459, 10);
        costBothWays(9, 123945, 10);
    }

    /** «the least sum by which that can be»: changing, or leaving out and putting in. */
    private static void changedOrLeftOutWhateverIsLess() {
        costBothWays(123456, 234561, 4);
        costBothWays(12, 21, 2);
        costBothWays(19, 91, 4);
        costBothWays(191, 919, 4);
        costBothWays(1919, 9191, 4);
        costBothWays(19191, 91919, 4);
        costBothWays(111, 222, 3);
        costBothWays(111, 444, 3);
        costBothWays(111, 555, 6);
        costBothWays(1, 25, 3);
        costBothWays(1, 52, 3);
        costBothWays(1, 59, 4);
        costBothWays(159, 951, 4);
        costBothWays(123, 456, 3);
        costBothWays(123, 789, 6);
    }

    /** Two rows of six keys, none of them near: each key is changed. */
    private static void theMostThatWordsCost() {
        costBothWays(111111, 999999, 12);
        costBothWays(333333, 777777, 12);
        costBothWays(1, 999999, 12);
        costBothWays(11111, 999999, 12);
        costBothWays(111111, 222222, 6);
        costBothWays(111111, 222229, 7);
        costBothWays(999999, 999999, 0);
    }

    /** All words of one and two keys with one another, and with longer ones, by the other way to reckon it. */
    private static void costOfAllShortWords() {
        List<Integer> words = new ArrayList<>();
        for (int word = 1; word < 100; word++) {
            if (word % 10 != 0) {
                words.add(word);
            }
        }
        int[] longer = {123, 951, 448, 7777, 1593, 24685, 78963, 123456, 951753, 555555};
        for (int word : longer) {
            words.add(word);
        }
        Model model = new Model();
        for (int one : words) {
            Putitback x = new Putitback();
            for (int other : words) {
                CHECK.same("12: cost(" + one + ", " + other + ")", x.cost(one, other), model.cost(one, other));
            }
        }
    }

    private static void costOfWordsNotInTheBook() {
        CHECK.leaves("12: in the book or not", Scenes::fullOfAll, "2", x -> x.cost(123, 125));
        CHECK.leaves("12: of the open word", Scenes::busy, "0", x -> x.cost(12, 12));
        CHECK.leaves("12: two wrong ones", Scenes::busy, "throws.IllegalArgumentException", x -> x.cost(0, 0));
    }
}
