import java.io.IOException;

/**
 * Promise 23, the answer "no", on both sides of each edge that it names: no run of calls leads to
 * it, so the source is spoilt at one place each time. Where the class is written otherwise one day,
 * the places here have to follow: one that is not found is told, and nothing is spoilt by it.
 */
public final class SoundnessTest {
    private static final Check CHECK = new Check();

    public static void main(String[] args) throws IOException, ReflectiveOperationException {
        soundAsItIs();
        costNotTheSameBothWays();
        costZeroOfTwoOthers();
        costOfOneAndItself();
        costMoreThanByAThirdOne();
        wordTwice();
        putBackTwiceButNotShown();
        pairsAboveNine();
        pairsBelowZero();
        countsAboveNinetyNine();
        countsBelowOne();
        CHECK.end("SoundnessTest");
    }

    private static Spoilt.Maker spoil(String place, String instead) throws IOException, ReflectiveOperationException {
        Spoilt.Maker maker = Spoilt.of(place, instead);
        if (maker == null) {
            System.out.println("SoundnessTest: not found, so not spoilt: " + place);
        }
        return maker;
    }

    private static Spoilt of(Spoilt.Maker maker, int... words) {
        Spoilt x = maker.make();
        x.giveAll(words);
        return x;
    }

    private static void soundAsItIs() {
        Putitback x = new Putitback();
        CHECK.yes("23: an empty book", x.isSound());
        Typist.giveAll(x, 1, 2, 3, 11, 12, 111111);
        CHECK.yes("23: never more than by a third one, but as much", x.isSound());
        for (int i = 0; i < 12; i++) {
            Typist.write(x, 1);
        }
        CHECK.yes("23: a pair of 9", x.isSound());
        x.give(2, 99);
        CHECK.yes("23: a count of 99", x.isSound());
    }

    /** Leaving out costs 1, putting in 2. */
    private static void costNotTheSameBothWays() throws IOException, ReflectiveOperationException {
        Spoilt.Maker maker = spoil("int leavingOut = least[row - 1][column] + COST_OF_A_KEY;",
                "int leavingOut = least[row - 1][column] + 1;");
        if (maker != null) {
            CHECK.yes("23: words of one key", of(maker, 1, 9).isSound());
            CHECK.no("23: not the same both ways", of(maker, 1, 11).isSound());
            CHECK.no("23: nor the other way round", of(maker, 11, 1).isSound());
            CHECK.no("23: at the last two places", of(maker, 1, 9, 5, 555).isSound());
        }
    }

    private static void costZeroOfTwoOthers() throws IOException, ReflectiveOperationException {
        Spoilt.Maker maker = spoil("return Math.min(rows + columns, COST_OF_A_KEY);",
                "return rows + columns > 1 ? COST_OF_A_KEY : 0;");
        if (maker != null) {
            CHECK.yes("23: not near", of(maker, 1, 9, 5).isSound());
            CHECK.no("23: near ones cost 0", of(maker, 1, 2).isSound());
            CHECK.no("23: at the last two places", of(maker, 1, 9, 7, 8).isSound());
        }
    }

    private static void costOfOneAndItself() throws IOException, ReflectiveOperationException {
        Spoilt.Maker maker = spoil("return Math.min(rows + columns, COST_OF_A_KEY);",
                "return rows + columns == 0 && one == 9 ? 1 : Math.min(rows + columns, COST_OF_A_KEY);");
        if (maker != null) {
            CHECK.yes("23: none of them", of(maker, 1, 5).isSound());
            CHECK.no("23: the only word", of(maker, 9).isSound());
            CHECK.no("23: the last word", of(maker, 1, 5, 9).isSound());
            CHECK.no("23: the first word", of(maker, 9, 1, 5).isSound());
        }
    }

    /** Keys that are not near cost 3: by a near one of both they cost 2. */
    private static void costMoreThanByAThirdOne() throws IOException, ReflectiveOperationException {
        Spoilt.Maker maker = spoil("return Math.min(rows + columns, COST_OF_A_KEY);",
                "return rows + columns > 1 ? COST_OF_A_KEY + 1 : rows + columns;");
        if (maker != null) {
            CHECK.yes("23: no third one", of(maker, 1, 3).isSound());
            CHECK.yes("23: by a third one it is more", of(maker, 1, 3, 9).isSound());
            int[][] rows = {{1, 2, 3}, {2, 1, 3}, {1, 3, 2}, {3, 2, 1}, {3, 1, 2}, {2, 3, 1}, {9, 99, 1, 3, 2}};
            for (int[] row : rows) {
                Spoilt x = of(maker, row);
                CHECK.no("23: more than by a third one", x.isSound());
                Putitback sound = new Putitback();
                Typist.giveAll(sound, row);
                CHECK.same("25: 0 in the place of 1 at the end", x.call("digest"), sound.digest() - 1);
            }
        }
    }

    /** A word is given with a count of 77: it comes behind all others, even if it is there. */
    private static void wordTwice() throws IOException, ReflectiveOperationException {
        Spoilt.Maker maker = spoil("if (place == NONE) {\n                place = newPlace();",
                "if (place == NONE || count == 77) {\n                place = newPlace();");
        if (maker != null) {
            int[] words = {1, 2, 3};
            for (int word : words) {
                Spoilt x = of(maker, words);
                CHECK.yes("23: once each", x.isSound());
                x.call("give", word, 77);
                CHECK.no("23: twice", x.isSound());
            }
        }
    }

    /** What was PUT BACK twice is not believed, just three times: that is what may not be. */
    private static void putBackTwiceButNotShown() throws IOException, ReflectiveOperationException {
        Spoilt.Maker maker = spoil("mends.timesOf(hand, word) >= TIMES_TO_BELIEVE) {",
                "mends.timesOf(hand, word) >= 3) {");
        if (maker == null) {
            return;
        }
        for (int hand = 0; hand < 3; hand++) {
            Spoilt x = of(maker, 5);
            x.call("hand", hand);
            x.mend(4, 0);
            CHECK.yes("23: put back once", x.isSound());
            x.call("hand", (hand + 1) % 3);
            x.mend(4, 0);
            CHECK.yes("23: by two hands once each", x.isSound());
            x.call("forget", 4);
            x.call("hand", hand);
            x.mend(4, 0);
            CHECK.yes("23: twice, but it is in the book", x.isSound());
            x.call("forget", 4);
            CHECK.no("23: put back twice, but the offer would be shown", x.isSound());
            x.call("tap", 9);
            CHECK.no("23: whatever is open", x.isSound());
            x.call("give", 4, 1);
            CHECK.yes("23: twice, but it is given", x.isSound());
            x.call("forget", 4);
            x.call("forget", 5);
            CHECK.yes("23: twice, and nothing else to show", x.isSound());
        }
        Spoilt x = of(maker, 5);
        x.mend(4, 0);
        x.mend(9, 0);
        x.mend(9, 0);
        CHECK.yes("23: twice, but trust is too little for another one", x.isSound());
        x.call("pass", 2);
        CHECK.no("23: twice, and trust is enough", x.isSound());
    }

    /** Ends that word of one key by blanks so often, in one text. */
    private static void write(Spoilt x, int word, int times) {
        for (int i = 0; i < times; i++) {
            x.call("tap", word);
            x.call("blank");
        }
    }

    private static void pairsAboveNine() throws IOException, ReflectiveOperationException {
        Spoilt.Maker maker = spoil("pairs[ahead][place] = Math.min(pairs[ahead][place] + 1, LARGEST_PAIR);",
                "pairs[ahead][place]++;");
        if (maker != null) {
            int[] words = {1, 5, 9};
            for (int word : words) {
                Spoilt x = of(maker, words);
                write(x, word, 10);
                CHECK.yes("23: a pair of 9", x.isSound());
                write(x, word, 1);
                CHECK.no("23: a pair of 10", x.isSound());
            }
        }
    }

    private static void pairsBelowZero() throws IOException, ReflectiveOperationException {
        Spoilt.Maker maker = spoil("pairs[ahead][place] = Math.min(pairs[ahead][place] + 1, LARGEST_PAIR);",
                "pairs[ahead][place]--;");
        if (maker != null) {
            int[] words = {1, 5, 9};
            for (int one : words) {
                for (int other : words) {
                    Spoilt x = of(maker, words);
                    write(x, one, 1);
                    CHECK.yes("23: pairs of 0", x.isSound());
                    write(x, other, 1);
                    CHECK.no("23: a pair of -1", x.isSound());
                }
            }
        }
    }

    private static void countsAboveNinetyNine() throws IOException, ReflectiveOperationException {
        Spoilt.Maker maker = spoil("counts[place] = Math.min(counts[place] + 1, LARGEST_COUNT);", "counts[place]++;");
        if (maker != null) {
            int[] words = {1, 5, 9};
            for (int word : words) {
                Spoilt x = of(maker, words);
                x.call("give", word, 98);
                write(x, word, 1);
                CHECK.yes("23: a count of 99", x.isSound());
                write(x, word, 1);
                CHECK.no("23: a count of 100", x.isSound());
            }
        }
    }

    private static void countsBelowOne() throws IOException, ReflectiveOperationException {
        Spoilt.Maker maker = spoil("counts[place] = count;", "counts[place] = count - 2;");
        if (maker != null) {
            int[] words = {1, 5, 9};
            for (int word : words) {
                Spoilt x = maker.make();
                for (int each : words) {
                    x.call("give", each, 3);
                }
                CHECK.yes("23: counts of 1", x.isSound());
                x.call("give", word, 2);
                CHECK.no("23: a count of 0", x.isSound());
                x.call("give", word, 1);
                CHECK.no("23: a count of -1", x.isSound());
            }
        }
    }
}
