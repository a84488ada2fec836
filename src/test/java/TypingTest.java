/** Promises 5 to 11: hand, tap, blank, choose, putBack, erase, send. */
public final class TypingTest {
    private static final Check CHECK = new Check();

    public static void main(String[] args) {
        handChanges();
        tapTaps();
        blankShowsWhatIsInTheBook();
        blankShowsTheFirstOffer();
        blankObeysTrust();
        blankBelievesWhoPutBackTwice();
        blankUses();
        blankStopsAtTheLimits();
        blankRefuses();
        chooseChooses();
        chooseRefuses();
        putBackPutsBack();
        putBackLearns();
        putBackMakesRoom();
        putBackFindsNoRoom();
        putBackRefuses();
        eraseErases();
        sendEmpties();
        CHECK.end("TypingTest");
    }

    private static void handChanges() {
        Putitback x = new Putitback();
        CHECK.same("5: hand 0 at first", x.hand(2), 0);
        CHECK.same("5: the one before", x.hand(2), 2);
        CHECK.same("5: and again", x.hand(1), 2);
        CHECK.same("5: who types", x.house(4), 1);
        int[] noHands = {-1, 3, Integer.MIN_VALUE, Integer.MAX_VALUE};
        for (int hand : noHands) {
            CHECK.index("5: hand(" + hand + ")", x, () -> x.hand(hand));
        }
        Typist.taps(x, 12);
        x.hand(2);
        x.blank();
        CHECK.same("5: the hand of the blank", x.ofText(0, 2), 2);
        x.hand(0);
        CHECK.same("5: stays with the word", x.ofText(0, 2), 2);
    }

    private static void tapTaps() {
        Putitback x = new Putitback();
        for (int i = 1; i <= 6; i++) {
            CHECK.same("6: keys", x.tap(10 - i), i);
        }
        CHECK.same("6: the open word", x.house(3), 987654);
        CHECK.same("6: taps", x.house(8), 6);
        CHECK.state("6: the seventh", x, () -> x.tap(1));
        int[] noKeys = {0, 10, -1, Integer.MIN_VALUE, Integer.MAX_VALUE};
        for (int key : noKeys) {
            CHECK.argument("6: tap(" + key + ") of a full word", x, () -> x.tap(key));
        }
        x.send();
        for (int key : noKeys) {
            CHECK.argument("6: tap(" + key + ")", x, () -> x.tap(key));
        }
        x.tap(9);
        CHECK.same("6: taps ever", x.house(8), 7);
    }

    private static void blankShowsWhatIsInTheBook() {
        Putitback x = new Putitback();
        CHECK.same("7: an empty book", Typist.write(x, 12), 12);
        x.give(12, 1);
        x.give(13, 99);
        CHECK.same("7: in the book", Typist.write(x, 12), 12);
        CHECK.same("7: not changed", x.house(6), 0);
        CHECK.same("7: typed", x.ofText(1, 0), 12);
        CHECK.same("7: shown", x.ofText(1, 1), 12);
        CHECK.same("7: the open word is empty", x.house(3), 0);
    }

    private static void blankShowsTheFirstOffer() {
        Putitback x = new Putitback();
        x.give(11, 1);
        x.give(22, 1);
        CHECK.same("7: the smallest place of several", Typist.write(x, 12), 11);
        CHECK.same("7: changed", x.house(6), 1);
        CHECK.same("7: typed stays", x.ofText(0, 0), 12);
        x.send();
        x.give(22, 3);
        CHECK.same("7: the count counts", Typist.write(x, 12), 22);
        x.send();
        x.give(11, 9);
        x.give(22, 60);
        CHECK.same("7: the count counts up to 9", Typist.write(x, 12), 11);
        x.send();
        x.give(22, 1);
        x.give(11, 7);
        Typist.write(x, 11);
        Typist.write(x, 22);
        x.send();
        Typist.write(x, 11);
        x.give(11, 5);
        x.give(22, 3);
        CHECK.same("7: twice the pair counts", x.pair(0, 1), 1);
        Typist.taps(x, 12);
        CHECK.same("7: but of several the first", x.wouldShow(0), 11);
        x.give(22, 4);
        CHECK.same("7: by the pair", x.blank(), 22);
        x.send();
        x.give(11, 5);
        x.give(22, 4);
        CHECK.same("7: no pair at the front", Typist.write(x, 12), 11);
    }

    /** Only the first offer is looked at, though one behind it is cheaper. */
    private static void blankObeysTrust() {
        Putitback x = new Putitback();
        x.give(111, 1);
        CHECK.same("7: cost 3 with trust 3", Typist.write(x, 222), 111);
        x.putBack();
        CHECK.same("7: cost 3 with trust 2", Typist.write(x, 444), 444);
        CHECK.same("7: cost 2 with trust 2", Typist.write(x, 221), 111);
        x.putBack();
        CHECK.same("7: cost 2 with trust 1", Typist.write(x, 441), 441);
        CHECK.same("7: cost 1 with trust 1", Typist.write(x, 211), 111);
        x.putBack();
        CHECK.same("7: cost 1 with trust 0", Typist.write(x, 411), 411);
        x.hand(1);
        CHECK.same("7: another hand", Typist.write(x, 411), 111);
        CHECK.same("7: cost 4 with trust 3", Typist.write(x, 225), 225);
        Putitback y = new Putitback();
        y.give(11, 1);
        y.give(15, 9);
        y.give(88, 1);
        y.give(12, 1);
        for (int i = 0; i < 12; i++) {
            Typist.write(y, i % 2 == 0 ? 88 : 15);
        }
        y.send();
        Typist.write(y, 88);
        y.give(15, 9);
        y.give(12, 1);
        Typist.taps(y, 13);
        CHECK.same("7: the first by worth", y.offer(0), 15);
        CHECK.same("7: of a pair of 6", y.ofBook(1, 4), 20 - 9 - 12);
        CHECK.same("7: and cost 2 is fine", y.wouldShow(0), 15);
        y.send();
        Typist.write(y, 88);
        y.hand(2);
        y.send();
        Typist.chooseNth(y, 11, 1);
        y.putBack();
        y.send();
        Typist.chooseNth(y, 11, 1);
        y.putBack();
        y.send();
        Typist.write(y, 88);
        y.give(15, 9);
        y.give(12, 1);
        Typist.taps(y, 13);
        CHECK.same("7: trust fell to 1", y.ofHand(2, 0), 1);
        CHECK.same("7: cheaper ones behind do not count", y.wouldShow(2), 13);
        CHECK.same("7: so it is shown as typed", y.blank(), 13);
    }

    private static void blankBelievesWhoPutBackTwice() {
        Putitback x = new Putitback();
        x.give(55, 9);
        Typist.write(x, 56);
        x.putBack();
        CHECK.same("7: put back once", Typist.write(x, 56), 55);
        x.putBack();
        x.pass(5);
        CHECK.same("7: put back twice", Typist.write(x, 56), 56);
        CHECK.same("7: not changed by that", x.house(6), 2);
        CHECK.same("7: not used, as it is not in the book", x.ofBook(0, 1), 11);
        x.hand(1);
        CHECK.same("7: another hand did not", Typist.write(x, 56), 55);
    }

    private static void blankUses() {
        Putitback x = new Putitback();
        x.give(55, 9);
        x.give(11, 1);
        x.pass(4);
        Typist.write(x, 56);
        CHECK.same("7: count", x.ofBook(0, 1), 10);
        CHECK.same("7: day", x.ofBook(0, 3), 4);
        CHECK.same("7: no pair at the front", x.pair(0, 0), 0);
        Typist.write(x, 11);
        CHECK.same("7: pair", x.pair(0, 1), 1);
        CHECK.same("7: not the other way", x.pair(1, 0), 0);
        Typist.write(x, 11);
        CHECK.same("7: with itself", x.pair(1, 1), 1);
        Typist.write(x, 999999);
        Typist.write(x, 11);
        CHECK.same("7: none with a word that is not in the book", x.pair(1, 1), 1);
        CHECK.same("7: nor with the one ahead of that", x.ofBook(1, 1), 4);
        Typist.write(x, 56);
        x.putBack();
        Typist.write(x, 11);
        CHECK.same("7: put back, so no pair", x.pair(0, 1), 1);
        CHECK.same("7: but the count stays", x.ofBook(0, 1), 11);
    }

    private static void blankStopsAtTheLimits() {
        Putitback x = new Putitback();
        x.give(7, 95);
        for (int i = 0; i < 12; i++) {
            Typist.write(x, 7);
        }
        CHECK.same("7: count 99 at most", x.ofBook(0, 1), 99);
        CHECK.same("7: pair 9 at most", x.pair(0, 0), 9);
        x.tap(7);
        CHECK.same("7: its worth", x.ofBook(0, 4), -9 - 18);
        CHECK.yes("7: sound", x.isSound());
    }

    private static void blankRefuses() {
        Putitback x = new Putitback();
        CHECK.state("7: no key", x, x::blank);
        for (int i = 0; i < 12; i++) {
            Typist.write(x, 7);
        }
        CHECK.state("7: a full text, no key", x, x::blank);
        Typist.taps(x, 78);
        CHECK.state("7: a full text", x, x::blank);
        CHECK.same("7: the open word stays", x.house(3), 78);
    }

    private static void chooseChooses() {
        Putitback x = new Putitback();
        x.give(11, 1);
        x.give(999999, 98);
        x.pass(3);
        CHECK.same("8: the second offer", Typist.chooseNth(x, 12, 1), 999999);
        CHECK.same("8: typed", x.ofText(0, 0), 12);
        CHECK.same("8: shown", x.ofText(0, 1), 999999);
        CHECK.same("8: used", x.ofBook(1, 1), 99);
        CHECK.same("8: on that day", x.ofBook(1, 3), 3);
        CHECK.same("8: not changed", x.house(6), 0);
        CHECK.same("8: the open word is empty", x.house(3), 0);
        x.hand(2);
        CHECK.same("8: the first offer", Typist.chooseNth(x, 12, 0), 11);
        CHECK.same("8: pair", x.pair(1, 0), 1);
        CHECK.same("8: the hand", x.ofText(1, 2), 2);
        CHECK.same("8: trust does not matter", Typist.chooseNth(x, 555, 1), 999999);
        CHECK.same("8: what was typed itself", Typist.chooseNth(x, 11, 0), 11);
        CHECK.state("8: is not to be put back", x, x::putBack);
    }

    private static void chooseRefuses() {
        Putitback x = new Putitback();
        CHECK.index("8: an empty book", x, () -> x.choose(0));
        x.give(11, 1);
        x.give(12, 1);
        CHECK.state("8: no key", x, () -> x.choose(1));
        int[] none = {-1, 2, Integer.MIN_VALUE, Integer.MAX_VALUE};
        for (int nth : none) {
            CHECK.index("8: choose(" + nth + ") without a key", x, () -> x.choose(nth));
        }
        x.tap(1);
        for (int nth : none) {
            CHECK.index("8: choose(" + nth + ")", x, () -> x.choose(nth));
        }
        for (int i = 0; i < 12; i++) {
            Typist.chooseNth(x, 1, 1);
        }
        x.tap(1);
        CHECK.state("8: a full text", x, () -> x.choose(0));
        CHECK.index("8: no such offer ahead of a full text", x, () -> x.choose(2));
    }

    private static void putBackPutsBack() {
        Putitback x = new Putitback();
        x.give(55, 9);
        Typist.write(x, 55);
        Typist.write(x, 56);
        x.hand(1);
        CHECK.same("9: times", x.putBack(), 1);
        CHECK.same("9: shown", x.ofText(1, 1), 56);
        CHECK.same("9: the word ahead stays", x.ofText(0, 1), 55);
        CHECK.same("9: its hand's trust", x.ofHand(0, 0), 2);
        CHECK.same("9: not of the hand that types", x.ofHand(1, 0), 3);
        CHECK.same("9: counted for its hand", x.putBacks(0, 56), 1);
        CHECK.same("9: not for the other", x.putBacks(1, 56), 0);
        CHECK.same("9: mended", x.house(7), 1);
        CHECK.same("9: changed stays", x.house(6), 1);
        CHECK.same("9: count stays", x.ofBook(0, 1), 11);
        CHECK.same("9: pair stays", x.pair(0, 0), 1);
        x.erase();
        x.choose(0);
        CHECK.same("9: first time of that hand", x.putBack(), 1);
        x.erase();
        x.choose(0);
        CHECK.same("9: second time", x.putBack(), 2);
        for (int i = 0; i < 3; i++) {
            x.erase();
            x.choose(0);
            CHECK.same("9: next time", x.putBack(), 3 + i);
        }
        CHECK.same("9: trust 0 at least", x.ofHand(1, 0), 0);
        CHECK.same("9: mended in all", x.house(7), 6);
    }

    private static void putBackLearns() {
        Putitback x = new Putitback();
        x.give(55, 9);
        Typist.chooseNth(x, 99, 0);
        x.putBack();
        Typist.chooseNth(x, 99, 0);
        x.pass(5);
        x.putBack();
        CHECK.same("9: not with the second time", x.house(0), 1);
        x.hand(2);
        Typist.chooseNth(x, 99, 0);
        x.putBack();
        CHECK.same("9: with the third of all hands", x.house(0), 2);
        CHECK.same("9: the word", x.ofBook(1, 0), 99);
        CHECK.same("9: count 1", x.ofBook(1, 1), 1);
        CHECK.same("9: learnt", x.ofBook(1, 2), 1);
        CHECK.same("9: today", x.ofBook(1, 3), 5);
        CHECK.same("9: no pair by that", x.pair(0, 1), 0);
        Typist.write(x, 55);
        CHECK.same("9: now it is a word ahead", x.pair(1, 0), 1);
        Typist.taps(x, 99);
        x.choose(1);
        x.putBack();
        CHECK.same("9: it is in the book already", x.house(0), 2);
        CHECK.same("9: so its count stays", x.ofBook(1, 1), 1);
        x.forget(99);
        x.send();
        Typist.chooseNth(x, 99, 0);
        x.putBack();
        CHECK.same("9: or with a later time", x.house(0), 2);
        x.forget(99);
        x.give(99, 7);
        Typist.chooseNth(x, 99, 1);
        x.putBack();
        CHECK.same("9: a given one stays given", x.ofBook(1, 2), 0);
        CHECK.same("9: with its count", x.ofBook(1, 1), 7);
    }

    /** The book is full, with the learnt words 1 (count 2), 2, 3 (count 1) among given ones. */
    private static Putitback withThreeLearnt() {
        Putitback x = new Putitback();
        x.give(555, 1);
        Typist.mend(x, 0, 1, 555, 3);
        x.give(556, 1);
        Typist.mend(x, 0, 2, 555, 3);
        Typist.mend(x, 0, 3, 555, 3);
        for (int i = 0; i < 7; i++) {
            x.give(661 + i, 1);
        }
        Typist.write(x, 1);
        x.send();
        return x;
    }

    private static void putBackMakesRoom() {
        Putitback x = withThreeLearnt();
        CHECK.same("9: full", x.house(0), 12);
        CHECK.same("9: learnt ones", x.house(1), 3);
        Typist.mend(x, 0, 9, 555, 3);
        CHECK.same("9: full again", x.house(0), 12);
        CHECK.same("9: the new one is behind all", x.ofBook(11, 0), 9);
        CHECK.same("9: the one of count 2 stays", x.ofBook(1, 0), 1);
        CHECK.same("9: the given one of count 1 stays", x.ofBook(2, 0), 556);
        CHECK.same("9: the first learnt one of count 1 went", x.ofBook(3, 0), 3);
        CHECK.same("9: learnt ones again", x.house(1), 3);
        Typist.mend(x, 0, 8, 555, 3);
        CHECK.same("9: then the next", x.ofBook(3, 0), 661);
        Typist.mend(x, 0, 7, 555, 3);
        CHECK.same("9: then the new one itself", x.ofBook(11, 0), 7);
        CHECK.same("9: with 8 ahead of it", x.ofBook(10, 0), 8);
        CHECK.no("9: 9 is gone", x.forget(9));
        theFirstPlaceGoes();
    }

    /** The learnt one with the least count stands at the first place. */
    private static void theFirstPlaceGoes() {
        Putitback x = new Putitback();
        x.give(4, 1);
        Typist.mend(x, 0, 1, 4, 3);
        Typist.mend(x, 0, 2, 4, 3);
        x.forget(4);
        x.give(555, 1);
        for (int i = 0; i < 9; i++) {
            x.give(661 + i, 1);
        }
        Typist.mend(x, 0, 9, 555, 3);
        CHECK.same("9: the first place went", x.ofBook(0, 0), 2);
        CHECK.same("9: for the new one", x.ofBook(11, 0), 9);
        CHECK.same("9: its count", x.ofBook(11, 1), 1);
    }

    private static void putBackFindsNoRoom() {
        Putitback x = new Putitback();
        for (int i = 0; i < 12; i++) {
            x.give(551 + i % 9 + i / 9 * 10, 1);
        }
        Typist.mend(x, 0, 9, 555, 3);
        CHECK.same("9: none is learnt", x.house(1), 0);
        CHECK.same("9: all stay", x.ofBook(11, 0), 563);
        CHECK.same("9: but it is counted", x.putBacks(0, 9), 3);
        x.forget(553);
        Typist.mend(x, 0, 9, 555, 1);
        CHECK.same("9: with the fourth time", x.ofBook(11, 0), 9);
    }

    private static void putBackRefuses() {
        Putitback x = new Putitback();
        CHECK.state("9: no word", x, x::putBack);
        x.tap(5);
        CHECK.state("9: just an open word", x, x::putBack);
        x.blank();
        CHECK.state("9: as typed", x, x::putBack);
        x.give(4, 1);
        Typist.write(x, 7);
        x.putBack();
        CHECK.state("9: put back already", x, x::putBack);
        x.erase();
        x.erase();
        CHECK.state("9: the one ahead is as typed", x, x::putBack);
    }

    private static void eraseErases() {
        Putitback x = new Putitback();
        CHECK.state("10: nothing", x, x::erase);
        x.give(55, 9);
        Typist.write(x, 55);
        Typist.write(x, 56);
        Typist.taps(x, 987);
        CHECK.same("10: the last key", x.erase(), 7);
        CHECK.same("10: the open word", x.house(3), 98);
        CHECK.same("10: the key ahead", x.erase(), 8);
        CHECK.same("10: the first key", x.erase(), 9);
        CHECK.same("10: a word is opened", x.erase(), 0);
        CHECK.same("10: what was typed of it", x.house(3), 56);
        CHECK.same("10: it is out of the text", x.house(2), 1);
        CHECK.same("10: counts stay", x.ofBook(0, 1), 11);
        CHECK.same("10: pairs stay", x.pair(0, 0), 1);
        CHECK.same("10: changed stays", x.house(6), 1);
        CHECK.same("10: taps stay", x.house(8), 7);
        CHECK.same("10: its last key", x.erase(), 6);
        CHECK.same("10: taps go on", x.tap(4), 2);
        CHECK.same("10: text", x.text(), "55 54");
        x.send();
        CHECK.state("10: nothing again", x, x::erase);
    }

    private static void sendEmpties() {
        Putitback x = new Putitback();
        CHECK.same("11: nothing", x.send(), 0);
        x.give(55, 9);
        x.hand(1);
        Typist.write(x, 56);
        x.putBack();
        Typist.write(x, 57);
        Typist.taps(x, 12);
        CHECK.same("11: words", x.send(), 2);
        CHECK.same("11: text", x.text(), "");
        CHECK.same("11: typed", x.typed(), "");
        CHECK.same("11: the open word, too", x.house(3), 0);
        CHECK.same("11: the book stays", x.ofBook(0, 1), 11);
        CHECK.same("11: the hand stays", x.house(4), 1);
        CHECK.same("11: put backs stay", x.putBacks(1, 56), 1);
        CHECK.same("11: an open word alone", x.tap(5) + x.send(), 1);
        Typist.write(x, 55);
        CHECK.same("11: no pair over a sending", x.pair(0, 0), 0);
    }
}
