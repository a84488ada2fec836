/** Description 3 and 4 and promises 9 and 10, sentence by sentence: what is put back, what is erased. */
public final class EdgesOfMendingTest {
    private static final Check CHECK = new Check();

    public static void main(String[] args) {
        noWordToPutBack();
        shownAsTyped();
        notTwiceTheSame();
        theLastWordAlone();
        whatBlankChanged();
        theHandThatTypedIt();
        trustZeroAtLeast();
        timesOfThatHandAndWord();
        theThirdTimeOfAllHands();
        notTheThirdOfAnotherWord();
        aLaterTime();
        mendedCounts();
        putBacksForGood();
        nothingToErase();
        keysToErase();
        wordsToOpen();
        whatWasTypedIsOpen();
        eraseLeavesWhatWasCounted();
        eraseAllOfAFullText();
        CHECK.end("EdgesOfMendingTest");
    }

    private static Putitback with5() {
        Putitback x = new Putitback();
        x.give(5, 50);
        return x;
    }

    // «Throws IllegalStateException if the TEXT has no WORD, or the last one is SHOWN as it was TYPED»

    private static void noWordToPutBack() {
        CHECK.leaves("9: a new one", Putitback::new, "throws.IllegalStateException", Putitback::putBack);
        CHECK.leaves("9: an empty text", Scenes::lastDay, "throws.IllegalStateException", Putitback::putBack);
        Putitback x = with5();
        x.tap(4);
        CHECK.state("9: an open word alone", x, x::putBack);
        x.blank();
        x.erase();
        CHECK.state("9: it was opened again", x, x::putBack);
        x.blank();
        x.send();
        CHECK.state("9: it was sent", x, x::putBack);
    }

    private static void shownAsTyped() {
        CHECK.leaves("9: in the book", Scenes::fullOfAll, "throws.IllegalStateException", Putitback::putBack);
        Putitback x = with5();
        Typist.write(x, 999);
        CHECK.state("9: not in the book", x, x::putBack);
        Typist.write(x, 5);
        CHECK.state("9: in the book", x, x::putBack);
        Typist.chooseNth(x, 5, 0);
        CHECK.state("9: chosen", x, x::putBack);
        x.tap(4);
        CHECK.state("9: the open word does not count", x, x::putBack);
    }

    private static void notTwiceTheSame() {
        Putitback x = with5();
        Typist.write(x, 4);
        CHECK.same("9: once", x.putBack(), 1);
        CHECK.state("9: not twice", x, x::putBack);
        x.tap(1);
        CHECK.state("9: not with an open word either", x, x::putBack);
    }

    private static void theLastWordAlone() {
        Putitback x = with5();
        Typist.write(x, 4);
        Typist.write(x, 999);
        CHECK.state("9: the one ahead does not count", x, x::putBack);
        x.erase();
        x.send();
        Typist.write(x, 4);
        Typist.write(x, 6);
        CHECK.same("9: the last one", x.putBack(), 1);
        CHECK.same("19: the other stays", x.text(), "5 6 ");
        CHECK.state("9: not the one ahead of it", x, x::putBack);
        for (int i = 0; i < 2; i++) {
            x.erase();
        }
        CHECK.same("9: as soon as it is the last one", x.putBack(), 1);
        CHECK.same("19: put back", x.text(), "4 ");
    }

    private static void whatBlankChanged() {
        Putitback x = Scenes.fullText();
        CHECK.same("15: shown", x.ofText(11, 1), 55);
        CHECK.same("9: in a full text, with six keys open", x.putBack(), 1);
        CHECK.same("15: shown is what was typed", x.ofText(11, 1), 52);
        CHECK.same("15: typed stays", x.ofText(11, 0), 52);
        CHECK.same("15: its hand stays", x.ofText(11, 2), 2);
        CHECK.same("18: the open word stays", x.house(3), 123456);
        CHECK.same("18: twelve words", x.house(2), 12);
    }

    // «that is counted for the HAND that typed it and what it typed, and TRUST of that HAND is 1 less (0 at least)»

    private static void theHandThatTypedIt() {
        for (int typed = 0; typed < 3; typed++) {
            for (int types = 0; types < 3; types++) {
                Putitback x = with5();
                x.hand(typed);
                Typist.write(x, 4);
                x.hand(types);
                x.putBack();
                for (int hand = 0; hand < 3; hand++) {
                    CHECK.same("16: trust", x.ofHand(hand, 0), hand == typed ? 2 : 3);
                    CHECK.same("16: words", x.ofHand(hand, 1), hand == typed ? 1 : 0);
                    CHECK.same("16: put backs", x.ofHand(hand, 2), hand == typed ? 1 : 0);
                    CHECK.same("17: of what was typed", x.putBacks(hand, 4), hand == typed ? 1 : 0);
                    CHECK.same("17: not of what was shown", x.putBacks(hand, 5), 0);
                }
                CHECK.same("18: who types stays", x.house(4), types);
            }
        }
    }

    private static void trustZeroAtLeast() {
        Putitback x = with5();
        int[] due = {2, 1, 0, 0, 0};
        for (int trust : due) {
            Typist.mend(x, 0, 99, 5, 1);
            CHECK.same("16: trust", x.ofHand(0, 0), trust);
        }
        x.pass(1);
        CHECK.same("16: 1 more than 0", x.ofHand(0, 0), 1);
    }

    /** «Returns how often that HAND has PUT it BACK, with this.» */
    private static void timesOfThatHandAndWord() {
        Putitback x = with5();
        int[][] rows = {{0, 7, 1}, {0, 7, 2}, {0, 8, 1}, {1, 7, 1}, {0, 7, 3}, {1, 8, 1}, {1, 8, 2}, {0, 7, 4}, {2, 9, 1}};
        for (int[] row : rows) {
            x.hand(row[0]);
            Typist.pick(x, row[1], 5);
            CHECK.same("9: hand " + row[0] + " puts back " + row[1], x.putBack(), row[2]);
            CHECK.same("17: the same", x.putBacks(row[0], row[1]), row[2]);
        }
        int[][] ofHands = {{2, 5}, {2, 3}, {1, 1}};
        for (int hand = 0; hand < 3; hand++) {
            CHECK.same("16: different words", x.ofHand(hand, 1), ofHands[hand][0]);
            CHECK.same("16: put backs in all", x.ofHand(hand, 2), ofHands[hand][1]);
        }
    }

    // «With the third time of what was TYPED, by all HANDS together (or a later one), it is LEARNT»

    private static void theThirdTimeOfAllHands() {
        int[][] rows = {{0, 0, 0}, {2, 2, 2}, {0, 1, 2}, {1, 0, 0}, {2, 2, 1}, {0, 1, 0}};
        for (int[] row : rows) {
            Putitback x = with5();
            for (int i = 0; i < 3; i++) {
                CHECK.same("9: not ahead of the third time", x.house(0), 1);
                Typist.mend(x, row[i], 999, 5, 1);
            }
            CHECK.same("9: learnt with the third time", x.house(0), 2);
            CHECK.same("9: what was typed", x.ofBook(1, 0), 999);
            CHECK.same("18: learnt", x.house(1), 1);
        }
    }

    private static void notTheThirdOfAnotherWord() {
        Putitback x = with5();
        int[] words = {1, 2, 3, 1, 2, 3, 4, 6, 7};
        for (int word : words) {
            Typist.mend(x, 0, word, 5, 1);
        }
        CHECK.same("9: none of them three times", x.house(0), 1);
        Typist.mend(x, 1, 2, 5, 1);
        CHECK.same("9: one of them", EdgesOfBookTest.words(x), "5 2");
    }

    private static void aLaterTime() {
        Putitback x = with5();
        Typist.mend(x, 0, 9, 5, 3);
        for (int i = 0; i < 3; i++) {
            CHECK.yes("3: learnt, it goes", x.forget(9));
            Typist.mend(x, i, 9, 5, 1);
            CHECK.same("9: with a later time again", EdgesOfBookTest.words(x), "5 9");
        }
        Putitback y = with5();
        y.give(9, 4);
        Typist.mend(y, 0, 9, 5, 3);
        CHECK.same("9: it was there with the third time", y.ofBook(1, 2), 0);
        y.forget(9);
        CHECK.same("9: not by going", y.house(0), 1);
        Typist.mend(y, 0, 9, 5, 1);
        CHECK.same("9: but with the fourth", y.ofBook(1, 2), 1);
    }

    /** «MENDED how often something was PUT BACK.» */
    private static void mendedCounts() {
        Putitback x = with5();
        for (int i = 1; i <= 4; i++) {
            Typist.mend(x, i % 3, i == 1 ? 4 : 999, 5, 1);
            CHECK.same("18: mended", x.house(7), i);
        }
        CHECK.state("9: a refused one", x, x::putBack);
        CHECK.same("18: is not counted", x.house(7), 4);
        Typist.write(x, 4);
        CHECK.same("18: nor is a blank", x.house(7), 4);
    }

    /** «PUT BACKS are kept for each HAND and what was TYPED, for good.» */
    private static void putBacksForGood() {
        Putitback x = with5();
        Typist.mend(x, 1, 9, 5, 2);
        x.forget(5);
        x.give(9, 9);
        x.forget(9);
        Typist.passTo(x, 999);
        x.send();
        CHECK.same("17: after 999 days", x.putBacks(1, 9), 2);
        CHECK.same("16: words", x.ofHand(1, 1), 1);
        CHECK.same("16: put backs", x.ofHand(1, 2), 2);
        x.hand(1);
        x.tap(9);
        x.give(5, 1);
        CHECK.same("22: still believed", x.wouldShow(1), 9);
        x.blank();
        x.erase();
        CHECK.same("17: erased", x.putBacks(1, 9), 2);
        Putitback y = with5();
        for (int i = 1; i <= 9; i++) {
            for (int j = 1; j <= 9; j++) {
                Typist.chooseNth(y, 10 * i + j, 0);
                y.putBack();
                y.send();
            }
        }
        CHECK.same("16: many different words", y.ofHand(0, 1), 81);
        CHECK.same("17: the first of them", y.putBacks(0, 11), 1);
        CHECK.same("17: the last of them", y.putBacks(0, 99), 1);
    }

    // Promise 10.

    private static void nothingToErase() {
        CHECK.leaves("10: a new one", Putitback::new, "throws.IllegalStateException", Putitback::erase);
        CHECK.leaves("10: an empty text", Scenes::lastDay, "throws.IllegalStateException", Putitback::erase);
        Putitback x = new Putitback();
        x.tap(3);
        CHECK.same("10: a key alone", x.erase(), 3);
        CHECK.state("10: none is left", x, x::erase);
        Typist.write(x, 12);
        CHECK.same("10: a word alone", x.erase(), 0);
        CHECK.same("10: its last key", x.erase(), 2);
        CHECK.same("10: its first key", x.erase(), 1);
        CHECK.state("10: none is left again", x, x::erase);
    }

    private static void keysToErase() {
        for (int key = 1; key <= 9; key++) {
            Putitback x = new Putitback();
            x.tap(10 - key);
            x.tap(key);
            CHECK.same("10: the last key", x.erase(), key);
            CHECK.same("18: the open word", x.house(3), 10 - key);
            CHECK.same("10: the first key", x.erase(), 10 - key);
            CHECK.same("18: none", x.house(3), 0);
            CHECK.same("18: taps stay", x.house(8), 2);
        }
        Putitback x = new Putitback();
        Typist.taps(x, 912345);
        int[] open = {91234, 9123, 912, 91, 9, 0};
        for (int i = 0; i < 6; i++) {
            CHECK.same("10: key by key", x.erase(), i == 5 ? 9 : i == 4 ? 1 : 5 - i);
            CHECK.same("18: what is open", x.house(3), open[i]);
        }
    }

    private static void wordsToOpen() {
        Putitback x = with5();
        Typist.write(x, 12);
        Typist.write(x, 777777);
        x.tap(8);
        CHECK.same("10: a key goes first", x.erase(), 8);
        CHECK.same("18: no word by that", x.house(2), 2);
        CHECK.same("10: then a word is opened", x.erase(), 0);
        CHECK.same("18: it is out of the text", x.house(2), 1);
        CHECK.same("18: all six keys of it", x.house(3), 777777);
        CHECK.index("15: it is not there", x, () -> x.ofText(1, 0));
        for (int i = 0; i < 6; i++) {
            CHECK.same("10: key by key", x.erase(), 7);
        }
        CHECK.same("10: then the first one", x.erase(), 0);
        CHECK.same("18: its keys", x.house(3), 12);
        CHECK.same("18: no word", x.house(2), 0);
    }

    /** Not what was SHOWN of it; also of one that was chosen, and of one that was put back. */
    private static void whatWasTypedIsOpen() {
        Putitback x = with5();
        Typist.write(x, 4);
        x.erase();
        CHECK.same("18: of a changed one", x.house(3), 4);
        x.choose(0);
        x.erase();
        CHECK.same("18: of a chosen one", x.house(3), 4);
        x.blank();
        x.putBack();
        x.erase();
        CHECK.same("18: of one that was put back", x.house(3), 4);
        CHECK.same("20: typed", x.typed(), "4");
        CHECK.same("19: text", x.text(), "4");
    }

    /** «(COUNTS and PAIRS stay)», and whatever else was counted. */
    private static void eraseLeavesWhatWasCounted() {
        Putitback x = with5();
        Typist.write(x, 5);
        Typist.write(x, 4);
        x.erase();
        CHECK.same("13: count", x.ofBook(0, 1), 52);
        CHECK.same("14: pair", x.pair(0, 0), 1);
        CHECK.same("18: changed", x.house(6), 1);
        CHECK.same("18: taps", x.house(8), 2);
        x.blank();
        CHECK.same("13: used once more", x.ofBook(0, 1), 53);
        CHECK.same("14: pair once more", x.pair(0, 0), 2);
        x.putBack();
        x.erase();
        CHECK.same("16: trust", x.ofHand(0, 0), 2);
        CHECK.same("18: mended", x.house(7), 1);
        CHECK.same("17: put backs", x.putBacks(0, 4), 1);
    }

    private static void eraseAllOfAFullText() {
        Putitback x = Scenes.fullText();
        int keys = 0;
        int opened = 0;
        while (x.house(2) > 0 || x.house(3) > 0) {
            if (x.erase() == 0) {
                opened++;
            } else {
                keys++;
            }
        }
        CHECK.same("10: words that were opened", opened, 12);
        CHECK.same("10: keys that went", keys, 30);
        CHECK.state("10: nothing is left", x, x::erase);
        CHECK.same("13: counts stay", x.ofBook(0, 1), 99);
        CHECK.same("14: pairs stay", x.pair(0, 0), 9);
    }
}
