/** Description 2 and promises 2 to 4, sentence by sentence: how much the book holds, counts, pairs, what goes. */
public final class EdgesOfBookTest {
    private static final Check CHECK = new Check();
    private static final int[] WRONG_COUNTS = {0, 100, -1, -99, 101, Integer.MIN_VALUE, Integer.MAX_VALUE};

    public static void main(String[] args) {
        anEmptyBook();
        twelveWordsAndNoMore();
        aFullBookTakesWhatItHolds();
        roomAfterOneWent();
        noWordTwice();
        countsGivenOneToNinetyNine();
        countsUsedUpToNinetyNine();
        theDayThatIsLater();
        usedAsShownByBlankOrChoose();
        notUsedAsPutBackOrErased();
        pairsUpToNine();
        pairsByChooseUpToNine();
        pairOfAWordWithItself();
        pairWithTheWordShownAhead();
        noPairAtTheFrontOfTheText();
        noPairWithAWordOutOfTheBook();
        learntWithThatCountAndDay();
        learntBehindElevenOthers();
        leastCountGoes();
        ofSeveralTheFirstGoes();
        aGivenOneOfLessCountStays();
        theOnlyLearntOneGoesWhateverItsCount();
        theFirstPlaceGoes();
        theLastPlaceGoes();
        noneLearntNoneGoes();
        noneGoesForAWordOfTheBook();
        behindOneThatGoes();
        CHECK.end("EdgesOfBookTest");
    }

    /** The words of the book, in their places. */
    static String words(Putitback x) {
        StringBuilder all = new StringBuilder();
        for (int place = 0; place < x.house(0); place++) {
            all.append(place == 0 ? "" : " ").append(x.ofBook(place, 0));
        }
        return all.toString();
    }

    private static String ofPlace(Putitback x, int place) {
        return x.ofBook(place, 0) + " count " + x.ofBook(place, 1) + " learnt " + x.ofBook(place, 2)
                + " day " + x.ofBook(place, 3);
    }

    // «The BOOK has at most 12 WORDS, in places from 0, no WORD twice»

    private static void anEmptyBook() {
        CHECK.leaves("13: ofBook(0, 0)", Putitback::new, "throws.IndexOutOfBoundsException", x -> x.ofBook(0, 0));
        CHECK.leaves("14: pair(0, 0)", Putitback::new, "throws.IndexOutOfBoundsException", x -> x.pair(0, 0));
        CHECK.leaves("3: forget(5)", Putitback::new, "0", x -> x.forget(5) ? 1 : 0);
        CHECK.same("2: the first place", new Putitback().give(5, 1), 0);
        CHECK.same("4: nothing goes", new Putitback().pass(60), 0);
        Putitback x = new Putitback();
        x.give(5, 1);
        CHECK.yes("3: the only word goes", x.forget(5));
        CHECK.same("3: empty again", x.house(0), 0);
        CHECK.index("13: no place 0", x, () -> x.ofBook(0, 0));
        CHECK.same("2: the first place again", x.give(6, 1), 0);
    }

    private static void twelveWordsAndNoMore() {
        Putitback x = new Putitback();
        for (int place = 0; place < 12; place++) {
            CHECK.same("2: place", x.give(Scenes.TWELVE[place], 1 + place), place);
            CHECK.same("18: words of the book", x.house(0), place + 1);
        }
        CHECK.same("13: the twelfth", x.ofBook(11, 0), 333);
        CHECK.leaves("2: the thirteenth", Scenes::fullBook, "throws.IllegalStateException", y -> y.give(5, 1));
        CHECK.leaves("2: the thirteenth, of 99", Scenes::fullBook, "throws.IllegalStateException", y -> y.give(999999, 99));
        CHECK.leaves("2: none goes for one that is given, not even a learnt one", Scenes::fullOfAll,
                "throws.IllegalStateException", y -> y.give(5, 1));
        CHECK.leaves("2: what is named first", Scenes::fullBook, "throws.IllegalArgumentException", y -> y.give(5, 0));
        CHECK.leaves("2: what is named first", Scenes::fullBook, "throws.IllegalArgumentException", y -> y.give(5, 100));
        CHECK.leaves("2: what is named first", Scenes::fullBook, "throws.IllegalArgumentException", y -> y.give(0, 1));
        CHECK.leaves("2: what is named first", Scenes::fullBook, "throws.IllegalArgumentException", y -> y.give(0, 0));
        CHECK.leaves("2: what is named first", Scenes::fullBook,
                "throws.IllegalArgumentException", y -> y.give(1000000, 1));
    }

    private static void aFullBookTakesWhatItHolds() {
        int[] places = {0, 5, 11};
        for (int place : places) {
            Putitback x = Scenes.fullBook();
            CHECK.same("2: its place", x.give(Scenes.TWELVE[place], 40 + place), place);
            CHECK.same("2: its count", x.ofBook(place, 1), 40 + place);
            CHECK.same("2: still twelve", x.house(0), 12);
        }
    }

    private static void roomAfterOneWent() {
        for (int place = 0; place < 12; place++) {
            Putitback x = Scenes.fullBook();
            x.forget(Scenes.TWELVE[place]);
            CHECK.same("2: behind all others", x.give(5, 1), 11);
            CHECK.state("2: full again", x, () -> x.give(6, 1));
        }
    }

    private static void noWordTwice() {
        Putitback x = new Putitback();
        CHECK.same("2: new", x.give(55, 3), 0);
        CHECK.same("2: another", x.give(56, 3), 1);
        CHECK.same("2: the same", x.give(55, 3), 0);
        CHECK.same("2: the same", x.give(56, 4), 1);
        CHECK.same("2: two words", words(x), "55 56");
        Typist.learn(x, 55, 56);
        CHECK.same("9: not learnt, as it is there", words(x), "55 56");
        CHECK.yes("3: it goes", x.forget(55));
        CHECK.no("3: all of it", x.forget(55));
    }

    // «each with a COUNT (1 to 99)»

    private static void countsGivenOneToNinetyNine() {
        int[] fine = {1, 2, 50, 98, 99};
        for (int count : fine) {
            Putitback x = new Putitback();
            CHECK.same("2: a new word", x.give(123, count), 0);
            CHECK.same("2: of that count", x.ofBook(0, 1), count);
            x.give(124, 50);
            CHECK.same("2: one that is there", x.give(124, count), 1);
            CHECK.same("2: has it from now on", x.ofBook(1, 1), count);
        }
        for (int count : WRONG_COUNTS) {
            CHECK.leaves("2: give(7, " + count + "), new", Scenes::busy,
                    "throws.IllegalArgumentException", x -> x.give(7, count));
            CHECK.leaves("2: give(55, " + count + "), there", Scenes::busy,
                    "throws.IllegalArgumentException", x -> x.give(55, count));
            CHECK.leaves("2: give(0, " + count + "), no word", Scenes::busy,
                    "throws.IllegalArgumentException", x -> x.give(0, count));
            CHECK.leaves("2: give(7, " + count + "), a full book", Scenes::fullOfAll,
                    "throws.IllegalArgumentException", x -> x.give(7, count));
        }
    }

    /** «its COUNT is 1 more (99 at most)» */
    private static void countsUsedUpToNinetyNine() {
        int[][] due = {{1, 2}, {8, 9}, {97, 98}, {98, 99}, {99, 99}};
        for (int[] row : due) {
            Putitback x = new Putitback();
            x.give(55, row[0]);
            Typist.write(x, 55);
            CHECK.same("7: count " + row[0] + " by a blank", x.ofBook(0, 1), row[1]);
            x.give(55, row[0]);
            Typist.pick(x, 999, 55);
            CHECK.same("8: count " + row[0] + " by choose", x.ofBook(0, 1), row[1]);
        }
        Putitback x = new Putitback();
        x.give(55, 98);
        for (int i = 0; i < 3; i++) {
            Typist.write(x, 55);
            CHECK.same("7: 99 at most", x.ofBook(0, 1), 99);
        }
        CHECK.yes("23: sound at 99", x.isSound());
    }

    /** «the DAY on which it was last USED (or GIVEN, or LEARNT, if that is later)» */
    private static void theDayThatIsLater() {
        Putitback x = new Putitback();
        x.give(55, 1);
        CHECK.same("13: given on the day 0", x.ofBook(0, 3), 0);
        x.pass(1);
        CHECK.same("13: a day goes by", x.ofBook(0, 3), 0);
        Typist.write(x, 55);
        CHECK.same("13: used later", x.ofBook(0, 3), 1);
        x.pass(2);
        x.give(55, 1);
        CHECK.same("13: given later", x.ofBook(0, 3), 3);
        x.pass(4);
        Typist.pick(x, 5, 55);
        CHECK.same("13: used later by choose", x.ofBook(0, 3), 7);
        x.pass(60);
        Typist.write(x, 54);
        CHECK.same("13: shown for another one", x.ofBook(0, 3), 67);
        x.pass(1);
        Typist.learn(x, 9, 55);
        CHECK.same("13: learnt", x.ofBook(1, 3), 68);
        x.pass(3);
        Typist.write(x, 9);
        CHECK.same("13: learnt, used later", x.ofBook(1, 3), 71);
        x.pass(3);
        x.give(9, 1);
        CHECK.same("13: learnt, given later", x.ofBook(1, 3), 74);
    }

    // «A WORD is USED, as it is SHOWN by blank() or choose() and is in the BOOK»

    private static void usedAsShownByBlankOrChoose() {
        Putitback x = new Putitback();
        x.give(55, 1);
        x.give(999999, 1);
        x.pass(5);
        Typist.write(x, 56);
        CHECK.same("7: in the place of another", ofPlace(x, 0), "55 count 2 learnt 0 day 5");
        Typist.pick(x, 5, 999999);
        CHECK.same("8: used", ofPlace(x, 1), "999999 count 2 learnt 0 day 5");
        CHECK.same("8: the first offer is not", ofPlace(x, 0), "55 count 2 learnt 0 day 5");
        Typist.write(x, 555555);
        CHECK.same("7: not in the book, so none", x.ofBook(0, 1) + x.ofBook(1, 1), 4);
        CHECK.same("7: nor does it come there", x.house(0), 2);
    }

    private static void notUsedAsPutBackOrErased() {
        Putitback x = new Putitback();
        x.give(55, 1);
        x.give(56, 1);
        x.pass(5);
        Typist.write(x, 55);
        Typist.pick(x, 56, 55);
        x.pass(5);
        x.putBack();
        CHECK.same("9: shown, but not used", ofPlace(x, 1), "56 count 1 learnt 0 day 0");
        CHECK.same("9: so no pair", x.pair(0, 1), 0);
        CHECK.same("9: the other's count stays", ofPlace(x, 0), "55 count 3 learnt 0 day 5");
        CHECK.same("9: the other's pair stays", x.pair(0, 0), 1);
        x.erase();
        CHECK.same("10: erased", ofPlace(x, 0), "55 count 3 learnt 0 day 5");
        CHECK.same("10: its pair stays", x.pair(0, 0), 1);
        CHECK.same("7: the first time that it is used", x.blank(), 56);
        CHECK.same("7: used now", ofPlace(x, 1), "56 count 2 learnt 0 day 10");
        CHECK.same("7: a pair now", x.pair(0, 1), 1);
    }

    // «the PAIR of both is 1 more (9 at most), also of a WORD with itself.»

    private static void pairsUpToNine() {
        Putitback x = new Putitback();
        x.give(5, 1);
        x.give(999, 1);
        for (int i = 1; i <= 11; i++) {
            x.send();
            Typist.write(x, 5);
            Typist.write(x, 999);
            CHECK.same("14: the pair after " + i, x.pair(0, 1), Math.min(i, 9));
            CHECK.same("14: the other way", x.pair(1, 0), 0);
        }
        CHECK.yes("23: sound at 9", x.isSound());
        x.tap(9);
        x.erase();
        x.erase();
        CHECK.same("10: pairs stay", x.pair(0, 1), 9);
        CHECK.same("13: its worth", x.ofBook(1, 4), -9 - 18);
    }

    private static void pairsByChooseUpToNine() {
        Putitback x = new Putitback();
        x.give(5, 1);
        for (int i = 0; i < 12; i++) {
            CHECK.same("14: the pair ahead of " + i, x.pair(0, 0), Math.max(0, Math.min(i - 1, 9)));
            Typist.chooseNth(x, 9, 0);
        }
        CHECK.same("14: 9 at most", x.pair(0, 0), 9);
    }

    private static void pairOfAWordWithItself() {
        Putitback x = new Putitback();
        x.give(1, 1);
        x.give(5, 1);
        Typist.write(x, 5);
        CHECK.same("14: once", x.pair(1, 1), 0);
        Typist.write(x, 5);
        CHECK.same("14: twice", x.pair(1, 1), 1);
        Typist.write(x, 5);
        CHECK.same("14: three times", x.pair(1, 1), 2);
        CHECK.same("14: none else", x.pair(0, 0) + x.pair(0, 1) + x.pair(1, 0), 0);
    }

    /** What is SHOWN ahead counts, not what was TYPED of it; and it changes as it is put back. */
    private static void pairWithTheWordShownAhead() {
        Putitback x = new Putitback();
        Typist.giveAll(x, 1, 5, 999);
        Typist.pick(x, 1, 5);
        Typist.write(x, 999);
        CHECK.same("14: with what was shown", x.pair(1, 2), 1);
        CHECK.same("14: not with what was typed", x.pair(0, 2), 0);
        x.send();
        Typist.pick(x, 1, 5);
        x.putBack();
        Typist.write(x, 999);
        CHECK.same("14: put back: with what is shown now", x.pair(0, 2), 1);
        CHECK.same("14: and not with what was", x.pair(1, 2), 1);
        x.send();
        Typist.write(x, 1);
        Typist.write(x, 5);
        x.erase();
        x.send();
        CHECK.same("14: of both", x.pair(0, 1), 1);
        Typist.write(x, 1);
        Typist.write(x, 5);
        x.erase();
        x.erase();
        Typist.write(x, 999);
        CHECK.same("14: with the one that is last now", x.pair(0, 2), 2);
        CHECK.same("14: not with the one that was erased", x.pair(1, 2), 1);
    }

    private static void noPairAtTheFrontOfTheText() {
        Putitback x = new Putitback();
        Typist.giveAll(x, 1, 5);
        Typist.write(x, 1);
        x.send();
        Typist.write(x, 5);
        x.erase();
        x.erase();
        Typist.write(x, 1);
        for (int i = 0; i < 4; i++) {
            CHECK.same("14: none at the front", x.pair(i / 2, i % 2), 0);
        }
    }

    private static void noPairWithAWordOutOfTheBook() {
        Putitback x = new Putitback();
        Typist.giveAll(x, 1, 5, 9);
        Typist.write(x, 1);
        Typist.write(x, 555555);
        Typist.write(x, 5);
        Typist.write(x, 9);
        x.forget(9);
        Typist.write(x, 5);
        for (int i = 0; i < 4; i++) {
            CHECK.same("14: none with a word that is not in the book", x.pair(i / 2, i % 2), 0);
        }
        CHECK.same("7: the count is more all the same", x.ofBook(1, 1), 3);
        Typist.write(x, 1);
        x.forget(5);
        x.give(5, 1);
        CHECK.same("14: gone with it", x.pair(1, 0), 0);
        Typist.write(x, 5);
        CHECK.same("14: new ones from then on", x.pair(0, 1), 1);
    }

    // «To LEARN a WORD that is not in the BOOK»

    private static void learntWithThatCountAndDay() {
        Putitback x = new Putitback();
        x.give(55, 99);
        x.pass(8);
        Typist.mend(x, 0, 9, 55, 2);
        CHECK.same("9: not with the second time", words(x), "55");
        x.pass(1);
        Typist.mend(x, 0, 9, 55, 1);
        CHECK.same("9: with the third time", ofPlace(x, 1), "9 count 1 learnt 1 day 9");
        CHECK.same("9: the others stay", ofPlace(x, 0), "55 count 99 learnt 0 day 9");
    }

    private static void learntBehindElevenOthers() {
        Putitback x = new Putitback();
        Typist.giveAll(x, 5, 11, 22, 33, 44, 66, 77, 88, 99, 111);
        Typist.learn(x, 1, 5);
        CHECK.same("9: eleven", words(x), "5 11 22 33 44 66 77 88 99 111 1");
        Typist.learn(x, 9, 5);
        CHECK.same("9: the twelfth, none goes", words(x), "5 11 22 33 44 66 77 88 99 111 1 9");
        Typist.learn(x, 8, 5);
        CHECK.same("9: one goes ahead of the next", words(x), "5 11 22 33 44 66 77 88 99 111 9 8");
        CHECK.same("18: learnt ones", x.house(1), 2);
    }

    /** A full book: 5 is given, then so many given ones, then the learnt 1, 2, 3 with those counts. */
    private static Putitback withLearnt(int... counts) {
        Putitback x = new Putitback();
        x.give(5, 50);
        for (int i = 0; i < counts.length; i++) {
            Typist.learn(x, i + 1, 5);
        }
        for (int i = 0; i < counts.length; i++) {
            for (int count = 1; count < counts[i]; count++) {
                x.send();
                Typist.write(x, i + 1);
            }
        }
        x.send();
        for (int i = x.house(0); i < 12; i++) {
            x.give(Scenes.TWELVE[i], 50);
        }
        return x;
    }

    /** «the LEARNT one with the least COUNT (of several the first one) goes ahead of that» */
    private static void leastCountGoes() {
        int[][] rows = {{1, 2, 3, 1}, {2, 1, 3, 2}, {2, 3, 1, 3}, {3, 2, 4, 2}, {4, 3, 2, 3}};
        for (int[] row : rows) {
            Putitback x = withLearnt(row[0], row[1], row[2]);
            CHECK.same("9: full", x.house(0), 12);
            Typist.learn(x, 9, 5);
            CHECK.no("9: the one of the least count went", x.forget(row[3]));
            CHECK.same("9: one only", x.house(0), 12);
            CHECK.same("9: behind all", ofPlace(x, 11), "9 count 1 learnt 1 day 0");
            CHECK.same("9: three learnt ones again", x.house(1), 3);
        }
    }

    private static void ofSeveralTheFirstGoes() {
        int[][] rows = {{1, 1, 1, 1}, {2, 1, 1, 2}, {2, 2, 3, 1}, {3, 2, 2, 2}, {1, 2, 1, 1}, {2, 3, 2, 1}};
        for (int[] row : rows) {
            Putitback x = withLearnt(row[0], row[1], row[2]);
            Typist.learn(x, 9, 5);
            for (int word = 1; word <= 3; word++) {
                CHECK.same("9: " + word + " is there", x.forget(word) ? 1 : 0, word == row[3] ? 0 : 1);
            }
        }
    }

    private static void aGivenOneOfLessCountStays() {
        Putitback x = withLearnt(3, 2);
        x.give(55, 1);
        x.give(88, 2);
        x.give(333, 1);
        Typist.learn(x, 9, 5);
        CHECK.same("9: the learnt one of count 2 went", words(x), "5 1 44 55 66 77 88 99 111 222 333 9");
    }

    private static void theOnlyLearntOneGoesWhateverItsCount() {
        Putitback x = withLearnt(1);
        for (int count = 1; count < 99; count++) {
            if (count % 12 == 1) {
                x.send();
            }
            Typist.write(x, 1);
        }
        CHECK.same("9: learnt, of count 99", ofPlace(x, 1), "1 count 99 learnt 1 day 0");
        Typist.learn(x, 9, 5);
        CHECK.same("9: it goes", words(x), "5 33 44 55 66 77 88 99 111 222 333 9");
    }

    private static void theFirstPlaceGoes() {
        Putitback x = new Putitback();
        x.give(5, 50);
        Typist.learn(x, 1, 5);
        CHECK.yes("3: the given one goes", x.forget(5));
        CHECK.same("18: the learnt one is alone", x.house(1), 1);
        Typist.giveAll(x, 11, 22, 33, 44, 55, 66, 77, 88, 99, 111, 222);
        Typist.learn(x, 9, 11);
        CHECK.same("9: it goes", words(x), "11 22 33 44 55 66 77 88 99 111 222 9");
        CHECK.same("18: one is learnt again", x.house(1), 1);
    }

    private static void theLastPlaceGoes() {
        Putitback x = new Putitback();
        x.give(5, 50);
        Typist.giveAll(x, 11, 22, 33, 44, 66, 77, 88, 99, 111, 222);
        Typist.learn(x, 1, 5);
        CHECK.same("9: learnt at the last place", x.ofBook(11, 2), 1);
        Typist.learn(x, 9, 5);
        CHECK.same("9: the new one is there", words(x), "5 11 22 33 44 66 77 88 99 111 222 9");
        CHECK.same("9: with its own count", ofPlace(x, 11), "9 count 1 learnt 1 day 0");
    }

    /** «if none is LEARNT, it is not LEARNT.» A later time learns it, as soon as there is room. */
    private static void noneLearntNoneGoes() {
        Putitback x = new Putitback();
        Typist.giveAll(x, Scenes.TWELVE);
        String before = words(x);
        Typist.mend(x, 0, 9, 11, 2);
        Typist.mend(x, 1, 9, 11, 2);
        CHECK.same("9: none goes", words(x), before);
        CHECK.same("9: none is learnt", x.house(1), 0);
        CHECK.same("9: counted all the same", x.putBacks(0, 9) + x.putBacks(1, 9), 4);
        x.forget(222);
        CHECK.same("9: not by the room alone", x.house(0), 11);
        Typist.mend(x, 2, 9, 11, 1);
        CHECK.same("9: a later time", words(x), before.replace(" 222", "") + " 9");
        Putitback y = withLearnt(1);
        y.give(1, 1);
        before = words(y);
        Typist.learn(y, 9, 5);
        CHECK.same("9: given by now, so it does not go", words(y), before);
    }

    private static void noneGoesForAWordOfTheBook() {
        Putitback x = withLearnt(2, 1);
        String before = words(x);
        Typist.mend(x, 0, 333, 5, 4);
        CHECK.same("9: none goes for a given one", words(x), before);
        CHECK.same("9: it stays given", ofPlace(x, 11), "333 count 50 learnt 0 day 0");
        Typist.mend(x, 0, 1, 5, 4);
        CHECK.same("9: none goes for a learnt one", words(x), before);
        CHECK.same("9: with its count", ofPlace(x, 1), "1 count 2 learnt 1 day 0");
    }

    // «As a WORD goes, all behind it move one place ahead, and all its PAIRS are gone.»

    /** Four words, a pair of each with each that tells both, and other counts and days of each. */
    private static Putitback ofFour() {
        Putitback x = new Putitback();
        int[] words = {1, 33, 777, 9999};
        for (int word : words) {
            x.give(word, 1 + x.house(0));
            x.pass(1);
        }
        int[][] rows = {{1, 1, 33, 33, 777, 777, 9999, 9999, 1}, {1, 777, 1, 777}, {9999, 33, 9999, 33, 9999, 33}};
        for (int[] row : rows) {
            for (int word : row) {
                Typist.write(x, word);
            }
            x.send();
        }
        for (int word : words) {
            x.give(word, 9 * (1 + word % 10));
            x.pass(1);
        }
        return x;
    }

    private static void behindOneThatGoes() {
        int[] words = {1, 33, 777, 9999};
        for (int gone = 0; gone < 4; gone++) {
            Putitback before = ofFour();
            Putitback x = ofFour();
            CHECK.yes("3: it was there", x.forget(words[gone]));
            CHECK.same("3: three stay", x.house(0), 3);
            for (int i = 0; i < 3; i++) {
                int was = i < gone ? i : i + 1;
                CHECK.same("3: without " + gone, ofPlace(x, i), ofPlace(before, was));
                for (int other = 0; other < 3; other++) {
                    int otherWas = other < gone ? other : other + 1;
                    CHECK.same("3: pairs without " + gone, x.pair(i, other), before.pair(was, otherWas));
                }
            }
            CHECK.index("3: no fourth place", x, () -> x.ofBook(3, 0));
            CHECK.same("3: behind all others", x.give(words[gone], 1), 3);
            for (int i = 0; i < 4; i++) {
                CHECK.same("3: its pairs are gone", x.pair(3, i) + x.pair(i, 3), 0);
            }
        }
    }
}
