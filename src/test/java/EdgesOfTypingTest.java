/** Description 3 and promises 5 to 8 and 11, sentence by sentence: hands, keys, blanks, offers taken, sending. */
public final class EdgesOfTypingTest {
    private static final Check CHECK = new Check();
    private static final int[] WRONG_KEYS = {0, 10, -1, -9, 11, 55, Integer.MIN_VALUE, Integer.MAX_VALUE};

    public static void main(String[] args) {
        hands();
        theHandOfTheBlank();
        keysOneToNine();
        sixKeysAndNoMore();
        roomForAKeyAgain();
        blankOfNoKey();
        blankOfOneToSixKeys();
        twelveWordsAndNoMore();
        roomForAWordAgain();
        sameIfInTheBook();
        sameIfPutBackTwice();
        putBackTwiceByThisHand();
        costNoMoreThanTrust();
        trustOfThisHand();
        onlyTheFirstOffer();
        noOfferAtAll();
        changedByBlankAlone();
        offersToChoose();
        chooseWithoutAKeyOrRoom();
        chooseWhateverItCosts();
        sendOfNothingAndOfAll();
        CHECK.end("EdgesOfTypingTest");
    }

    // «HANDS are 0 to 2; the HAND 0 types at first. TRUST of a HAND is 3 at first.»

    private static void hands() {
        Putitback x = new Putitback();
        CHECK.same("18: who types at first", x.house(4), 0);
        CHECK.same("5: hand(0)", x.hand(0), 0);
        CHECK.same("5: hand(1)", x.hand(1), 0);
        CHECK.same("5: hand(2)", x.hand(2), 1);
        CHECK.same("5: the same once more", x.hand(2), 2);
        CHECK.same("18: who types", x.house(4), 2);
        CHECK.same("5: back to 0", x.hand(0), 2);
        for (int hand = 0; hand < 3; hand++) {
            CHECK.same("16: trust at first", x.ofHand(hand, 0), 3);
        }
        int[] wrong = {-1, 3, -3, 4, Integer.MIN_VALUE, Integer.MAX_VALUE};
        for (int hand : wrong) {
            CHECK.leaves("5: hand(" + hand + ")", Scenes::busy, "throws.IndexOutOfBoundsException", y -> y.hand(hand));
            CHECK.leaves("5: hand(" + hand + ") of a new one", Putitback::new,
                    "throws.IndexOutOfBoundsException", y -> y.hand(hand));
        }
    }

    /** «by which HAND (which types as the BLANK or choose() comes)» */
    private static void theHandOfTheBlank() {
        Putitback x = new Putitback();
        x.give(55, 1);
        x.tap(5);
        x.hand(1);
        x.tap(5);
        x.hand(2);
        x.blank();
        x.tap(1);
        x.hand(1);
        x.choose(0);
        x.hand(0);
        CHECK.same("15: the hand of the blank", x.ofText(0, 2), 2);
        CHECK.same("15: the hand of choose", x.ofText(1, 2), 1);
        x.erase();
        x.blank();
        CHECK.same("15: opened and ended again", x.ofText(1, 2), 0);
    }

    // «an OPEN WORD of 0 to 6 KEYS»

    private static void keysOneToNine() {
        for (int key = 1; key <= 9; key++) {
            Putitback x = new Putitback();
            CHECK.same("6: tap(" + key + ")", x.tap(key), 1);
            CHECK.same("6: the open word", x.house(3), key);
            CHECK.same("6: and one more", x.tap(key), 2);
            CHECK.same("6: at the end", x.house(3), 11 * key);
            CHECK.same("6: taps", x.house(8), 2);
        }
        for (int key : WRONG_KEYS) {
            CHECK.leaves("6: tap(" + key + ")", Scenes::busy, "throws.IllegalArgumentException", x -> x.tap(key));
            CHECK.leaves("6: tap(" + key + ") first", Putitback::new,
                    "throws.IllegalArgumentException", x -> x.tap(key));
            CHECK.leaves("6: tap(" + key + ") of six keys, what is named first", Scenes::fullText,
                    "throws.IllegalArgumentException", x -> x.tap(key));
        }
    }

    private static void sixKeysAndNoMore() {
        Putitback x = new Putitback();
        for (int keys = 1; keys <= 6; keys++) {
            CHECK.same("6: keys", x.tap(7), keys);
        }
        CHECK.same("6: six of them", x.house(3), 777777);
        for (int key = 1; key <= 9; key++) {
            int one = key;
            CHECK.state("6: the seventh", x, () -> x.tap(one));
        }
        CHECK.same("18: taps ever, those alone", x.house(8), 6);
        CHECK.leaves("6: the seventh", Scenes::fullText, "throws.IllegalStateException", y -> y.tap(1));
        CHECK.leaves("6: the seventh", Scenes::fullOfAll, "throws.IllegalStateException", y -> y.tap(9));
    }

    private static void roomForAKeyAgain() {
        Putitback x = new Putitback();
        Typist.taps(x, 123456);
        CHECK.same("10: a key goes", x.erase(), 6);
        CHECK.same("6: room for one", x.tap(9), 6);
        CHECK.state("6: but not for two", x, () -> x.tap(9));
        x.blank();
        CHECK.same("6: a new word", x.tap(1), 1);
        x.erase();
        CHECK.same("10: a word of six keys is opened", x.erase(), 0);
        CHECK.state("6: it has six", x, () -> x.tap(9));
        x.send();
        CHECK.same("6: a new word, sent", x.tap(1), 1);
    }

    // «A BLANK ends the OPEN WORD (of 1 KEY or more)»; «at most 12 WORDS»

    private static void blankOfNoKey() {
        CHECK.leaves("7: a new one", Putitback::new, "throws.IllegalStateException", Putitback::blank);
        CHECK.leaves("7: no key", Scenes::lastDay, "throws.IllegalStateException", Putitback::blank);
        Putitback x = Scenes.busy();
        x.blank();
        CHECK.state("7: no key behind a blank", x, x::blank);
        x.tap(1);
        x.erase();
        CHECK.state("7: the key was erased", x, x::blank);
        x.tap(1);
        x.send();
        CHECK.state("7: the key was sent", x, x::blank);
    }

    private static void blankOfOneToSixKeys() {
        int[] words = {1, 12, 123, 1234, 12345, 123456};
        Putitback x = new Putitback();
        for (int i = 0; i < 6; i++) {
            CHECK.same("7: shown", Typist.write(x, words[i]), words[i]);
            CHECK.same("15: typed", x.ofText(i, 0), words[i]);
            CHECK.same("18: words of the text", x.house(2), i + 1);
            CHECK.same("18: none is open", x.house(3), 0);
        }
        CHECK.same("19: text", x.text(), "1 12 123 1234 12345 123456 ");
    }

    private static void twelveWordsAndNoMore() {
        Putitback x = new Putitback();
        x.give(5, 1);
        for (int i = 1; i <= 12; i++) {
            CHECK.same("7: shown", i % 2 == 0 ? Typist.write(x, 9) : Typist.chooseNth(x, 8, 0), 5);
            CHECK.same("18: words of the text", x.house(2), i);
        }
        CHECK.state("7: the thirteenth, no key", x, x::blank);
        CHECK.state("8: the thirteenth, no key", x, () -> x.choose(0));
        CHECK.same("6: a key behind twelve words", x.tap(4), 1);
        CHECK.state("7: the thirteenth", x, x::blank);
        CHECK.state("8: the thirteenth", x, () -> x.choose(0));
        CHECK.leaves("7: a full text", Scenes::fullText, "throws.IllegalStateException", Putitback::blank);
        CHECK.leaves("8: a full text", Scenes::fullText, "throws.IllegalStateException", y -> y.choose(0));
        CHECK.leaves("7: full of all", Scenes::fullOfAll, "throws.IllegalStateException", Putitback::blank);
        CHECK.leaves("8: full of all", Scenes::fullOfAll, "throws.IllegalStateException", y -> y.choose(11));
    }

    private static void roomForAWordAgain() {
        Putitback x = Scenes.fullText();
        for (int i = 0; i < 6; i++) {
            CHECK.same("10: a key goes", x.erase(), 6 - i);
        }
        CHECK.same("10: the twelfth is opened", x.erase(), 0);
        CHECK.same("18: eleven", x.house(2), 11);
        CHECK.same("7: room for one", x.blank(), 55);
        x.tap(5);
        CHECK.state("7: but not for two", x, x::blank);
        CHECK.same("11: all go", x.send(), 12);
        CHECK.same("7: room for the first", Typist.write(x, 55), 55);
    }

    // «SHOWN is the same, if it is in the BOOK, or if this HAND has PUT it BACK twice or more»

    /** Also if another word of the book is worth less, so that it is the first offer. */
    private static void sameIfInTheBook() {
        Putitback x = new Putitback();
        x.give(55, 9);
        x.give(58, 1);
        for (int i = 0; i < 6; i++) {
            Typist.write(x, 55);
        }
        x.give(58, 1);
        Typist.taps(x, 58);
        CHECK.same("21: another one is the first offer", x.offer(0), 55);
        CHECK.same("22: but it is in the book", x.wouldShow(0), 58);
        CHECK.same("7: so it is shown", x.blank(), 58);
        CHECK.same("18: not changed", x.house(6), 0);
        CHECK.same("7: used", x.ofBook(1, 1), 2);
        x.forget(58);
        CHECK.same("7: not in the book any more", Typist.write(x, 58), 55);
        CHECK.same("18: changed", x.house(6), 1);
    }

    private static Putitback putBackBy0(int times) {
        Putitback x = new Putitback();
        x.give(5, 50);
        Typist.mend(x, 0, 4, 5, times);
        x.forget(4);
        x.pass(3);
        return x;
    }

    private static void sameIfPutBackTwice() {
        int[] due = {5, 5, 4, 4, 4};
        for (int times = 0; times < 5; times++) {
            Putitback x = putBackBy0(times);
            CHECK.same("17: put backs", x.putBacks(0, 4), times);
            CHECK.same("7: put back " + times + " times", Typist.write(x, 4), due[times]);
            CHECK.same("18: changed", x.house(6), times < 2 ? 1 : 0);
            CHECK.same("7: of another word", Typist.write(x, 6), 5);
        }
        Putitback x = putBackBy0(2);
        x.send();
        x.pass(60);
        x.forget(5);
        x.give(5, 9);
        CHECK.same("17: put backs are kept for good", Typist.write(x, 4), 4);
    }

    private static void putBackTwiceByThisHand() {
        Putitback x = new Putitback();
        x.give(5, 50);
        Typist.mend(x, 0, 4, 5, 1);
        Typist.mend(x, 1, 4, 5, 2);
        x.forget(4);
        x.pass(3);
        int[] due = {5, 4, 5};
        for (int hand = 0; hand < 3; hand++) {
            x.hand(hand);
            CHECK.same("7: hand " + hand, Typist.write(x, 4), due[hand]);
        }
        CHECK.same("18: changed", x.house(6), 2);
    }

    // «otherwise the first OFFER, if the COST of both is no more than TRUST of this HAND; otherwise the same»

    /** A hand of that trust; the book has 555555 alone. */
    private static Putitback ofTrust(int trust) {
        Putitback x = new Putitback();
        x.give(555555, 1);
        int[] words = {7, 8, 9};
        for (int i = 0; i < 3 - trust; i++) {
            Typist.mend(x, 0, words[i], 555555, 1);
        }
        return x;
    }

    private static void costNoMoreThanTrust() {
        int[] costs = {0, 1, 2, 3, 4, 5, 6};
        int[] words = {555555, 555552, 555522, 555222, 552222, 522222, 222222};
        for (int trust = 0; trust <= 3; trust++) {
            for (int cost : costs) {
                Putitback x = ofTrust(trust);
                CHECK.same("16: trust", x.ofHand(0, 0), trust);
                CHECK.same("12: cost", x.cost(555555, words[cost]), cost);
                int due = cost <= trust ? 555555 : words[cost];
                Typist.taps(x, words[cost]);
                CHECK.same("22: cost " + cost + " with trust " + trust, x.wouldShow(0), due);
                CHECK.same("7: cost " + cost + " with trust " + trust, x.blank(), due);
                CHECK.same("15: shown", x.ofText(0, 1), due);
                CHECK.same("15: typed", x.ofText(0, 0), words[cost]);
                CHECK.same("18: changed", x.house(6), due == words[cost] ? 0 : 1);
                CHECK.same("7: used or not", x.ofBook(0, 1), 4 - trust + (due == 555555 ? 1 : 0));
            }
        }
    }

    private static void trustOfThisHand() {
        Putitback x = ofTrust(0);
        CHECK.same("7: trust 0", Typist.write(x, 555552), 555552);
        x.hand(1);
        CHECK.same("7: trust of another hand", Typist.write(x, 555552), 555555);
        x.hand(0);
        x.pass(1);
        CHECK.same("7: trust 1 by a day", Typist.write(x, 555552), 555555);
    }

    /** The first offer costs too much; one behind it, that costs less, is not shown. */
    private static void onlyTheFirstOffer() {
        Putitback x = new Putitback();
        x.give(55, 9);
        x.give(99, 1);
        for (int i = 0; i < 10; i++) {
            Typist.write(x, 55);
        }
        x.send();
        Typist.mend(x, 2, 1, 99, 1);
        Typist.mend(x, 2, 2, 99, 1);
        x.give(99, 1);
        Typist.write(x, 55);
        Typist.taps(x, 98);
        CHECK.same("13: cost 3, count 9, pair 9", x.ofBook(0, 4), 30 - 9 - 18);
        CHECK.same("13: cost 1, count 1", x.ofBook(1, 4), 10 - 1);
        CHECK.same("21: the first", x.offer(0), 55);
        CHECK.same("22: the first, trust 3", x.wouldShow(0), 55);
        CHECK.same("22: the same, trust 1", x.wouldShow(2), 98);
        x.hand(2);
        CHECK.same("7: the same", x.blank(), 98);
    }

    private static void noOfferAtAll() {
        Putitback x = new Putitback();
        CHECK.same("7: an empty book", Typist.write(x, 1), 1);
        x.give(1, 1);
        x.forget(1);
        CHECK.same("7: an empty book again", Typist.write(x, 2), 2);
        CHECK.same("18: not changed", x.house(6), 0);
    }

    /** «CHANGED is how often blank() SHOWED a WORD otherwise than it was TYPED» */
    private static void changedByBlankAlone() {
        Putitback x = new Putitback();
        x.give(5, 1);
        Typist.write(x, 4);
        CHECK.same("18: changed", x.house(6), 1);
        Typist.write(x, 5);
        Typist.write(x, 99);
        CHECK.same("18: not by the same", x.house(6), 1);
        Typist.chooseNth(x, 4, 0);
        CHECK.same("18: not by choose", x.house(6), 1);
        x.putBack();
        CHECK.same("18: nor by what is put back", x.house(6), 1);
        x.erase();
        x.blank();
        CHECK.same("18: but once more by a blank", x.house(6), 2);
        x.send();
        CHECK.same("18: for good", x.house(6), 2);
    }

    // Promise 8.

    private static void offersToChoose() {
        for (int nth = 0; nth < 12; nth++) {
            int due = Scenes.fullBook().offer(nth);
            Putitback x = Scenes.fullBook();
            CHECK.same("8: choose(" + nth + ") of twelve, not asked for", x.choose(nth), due);
            CHECK.same("15: typed", x.ofText(2, 0), 8);
            CHECK.same("15: shown", x.ofText(2, 1), due);
        }
        int[] wrong = {-1, 12, 13, -12, Integer.MIN_VALUE, Integer.MAX_VALUE};
        for (int nth : wrong) {
            CHECK.leaves("8: choose(" + nth + ") of twelve", Scenes::fullBook,
                    "throws.IndexOutOfBoundsException", x -> x.choose(nth));
            CHECK.leaves("8: choose(" + nth + ") of a full text, what is named first", Scenes::fullOfAll,
                    "throws.IndexOutOfBoundsException", x -> x.choose(nth));
            CHECK.leaves("8: choose(" + nth + ") without a key, what is named first", Scenes::lastDay,
                    "throws.IndexOutOfBoundsException", x -> x.choose(nth));
        }
        Putitback x = new Putitback();
        Typist.giveAll(x, 99, 11, 22);
        CHECK.same("8: the first of three", Typist.chooseNth(x, 12, 0), 11);
        CHECK.same("8: the last of three", Typist.chooseNth(x, 2, 2), 99);
        CHECK.same("8: the first again", Typist.chooseNth(x, 98, 0), 99);
        CHECK.leaves("8: as much as there are", Scenes::busy, "throws.IndexOutOfBoundsException", z -> z.choose(3));
        CHECK.leaves("8: of an empty book", Putitback::new, "throws.IndexOutOfBoundsException", z -> z.choose(0));
        Putitback y = new Putitback();
        y.tap(1);
        CHECK.index("8: of an empty book, with a key", y, () -> y.choose(0));
    }

    private static void chooseWithoutAKeyOrRoom() {
        CHECK.leaves("8: no key, the first", Scenes::lastDay, "throws.IllegalStateException", x -> x.choose(0));
        CHECK.leaves("8: no key, the last", Scenes::lastDay, "throws.IllegalStateException", x -> x.choose(1));
        Putitback x = Scenes.busy();
        x.choose(2);
        CHECK.state("8: no key behind choose", x, () -> x.choose(0));
        CHECK.leaves("8: a full text, the last", Scenes::fullText, "throws.IllegalStateException", y -> y.choose(0));
    }

    private static void chooseWhateverItCosts() {
        Putitback x = ofTrust(0);
        CHECK.same("8: cost 12, trust 0", Typist.chooseNth(x, 111111, 0), 555555);
        CHECK.same("12: cost", x.cost(111111, 555555), 12);
        x.give(1, 1);
        CHECK.same("8: another one than was typed in the book", Typist.pick(x, 1, 555555), 555555);
        CHECK.same("8: the same as was typed", Typist.pick(x, 1, 1), 1);
        CHECK.same("18: not changed", x.house(6), 0);
        CHECK.state("9: that is as it was typed", x, x::putBack);
    }

    // Promise 11.

    private static void sendOfNothingAndOfAll() {
        CHECK.leaves("11: of a new one", Putitback::new, "0", Putitback::send);
        Putitback x = Scenes.fullText();
        CHECK.same("11: twelve words", x.send(), 12);
        CHECK.same("19: empty", x.text(), "");
        CHECK.same("20: empty", x.typed(), "");
        CHECK.same("18: no word", x.house(2), 0);
        CHECK.same("18: no key", x.house(3), 0);
        CHECK.index("15: no word", x, () -> x.ofText(0, 0));
        CHECK.state("10: nothing to erase", x, x::erase);
        CHECK.state("9: nothing to put back", x, x::putBack);
        CHECK.state("7: nothing to end", x, x::blank);
        CHECK.same("11: nothing again", x.send(), 0);
        x.tap(1);
        CHECK.same("11: an open word alone", x.send(), 0);
        CHECK.same("18: is gone", x.house(3), 0);
        CHECK.same("18: but taps are kept", x.house(8), 31);
        CHECK.same("18: and who types", x.house(4), 2);
        CHECK.same("18: and changed", x.house(6), 1);
        CHECK.same("13: and counts", x.ofBook(0, 1), 99);
        CHECK.same("14: and pairs", x.pair(0, 0), 9);
    }
}
