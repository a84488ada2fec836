/** Promises 13 to 25, sentence by sentence: the first and the last that can be asked, and what would be. */
public final class EdgesOfAskingTest {
    private static final Check CHECK = new Check();

    public static void main(String[] args) {
        placesOfTheBook();
        whatOfTheBook();
        worthWithoutAKey();
        worthByCount();
        worthByPair();
        worthByTheLastWordShown();
        placesOfAPair();
        wordsOfTheText();
        whatOfTheText();
        handsAndWhatOfThem();
        putBacksOfHandsAndWords();
        houseZeroToNine();
        textsOfNothingAndOfAll();
        offersOfNoneToTwelve();
        offersByRisingWorth();
        wouldShowOfHands();
        wouldShowInAFullText();
        soundAtTheEdges();
        knocksAreCounted();
        CHECK.end("EdgesOfAskingTest");
    }

    // Promise 13.

    private static void placesOfTheBook() {
        int[] fine = {0, 1, 10, 11};
        for (int place : fine) {
            CHECK.leaves("13: ofBook(" + place + ", 0) of twelve", Scenes::fullBook,
                    "" + Scenes.TWELVE[place], x -> x.ofBook(place, 0));
        }
        int[] wrong = {-1, 12, 13, Integer.MIN_VALUE, Integer.MAX_VALUE};
        for (int place : wrong) {
            for (int what = -1; what <= 5; what++) {
                int one = what;
                CHECK.leaves("13: ofBook(" + place + ", " + what + ") of twelve, what is named first",
                        Scenes::fullBook, "throws.IndexOutOfBoundsException", x -> x.ofBook(place, one));
            }
        }
        for (int size = 0; size < 12; size++) {
            Putitback x = new Putitback();
            for (int i = 0; i < size; i++) {
                x.give(Scenes.TWELVE[i], 1);
            }
            int place = size;
            CHECK.index("13: as much as there are", x, () -> x.ofBook(place, 0));
            CHECK.index("14: as much as there are", x, () -> x.pair(place, 0));
            CHECK.index("14: as much as there are", x, () -> x.pair(0, place));
            CHECK.index("14: as much as there are", x, () -> x.pair(place, place));
        }
    }

    private static void whatOfTheBook() {
        String[] due = {"56", "1", "1", "3"};
        for (int what = 0; what < 4; what++) {
            int one = what;
            CHECK.leaves("13: ofBook(2, " + what + ")", Scenes::busy, due[what], x -> x.ofBook(2, one));
        }
        CHECK.leaves("13: ofBook(0, 2)", Scenes::busy, "0", x -> x.ofBook(0, 2));
        CHECK.leaves("13: ofBook(1, 4), cost 2, count 99, pair 1", Scenes::busy, "9", x -> x.ofBook(1, 4));
        int[] wrong = {-1, 5, 6, Integer.MIN_VALUE, Integer.MAX_VALUE};
        for (int what : wrong) {
            for (int place = 0; place < 3; place++) {
                int one = place;
                CHECK.leaves("13: ofBook(" + place + ", " + what + ")", Scenes::busy,
                        "throws.IllegalArgumentException", x -> x.ofBook(one, what));
            }
        }
    }

    /** «4 WORTH for the OPEN WORD (NONE, if that has no KEY)» */
    private static void worthWithoutAKey() {
        Putitback x = new Putitback();
        x.give(55, 9);
        CHECK.same("13: none", x.ofBook(0, 4), -1);
        x.tap(5);
        CHECK.same("13: one key", x.ofBook(0, 4), 20 - 9);
        x.erase();
        CHECK.same("13: none again", x.ofBook(0, 4), -1);
        Typist.taps(x, 222222);
        CHECK.same("13: six keys", x.ofBook(0, 4), 100 - 9);
        x.blank();
        CHECK.same("13: none behind a blank", x.ofBook(0, 4), -1);
        x.erase();
        CHECK.same("13: opened", x.ofBook(0, 4), 100 - 9);
        x.send();
        CHECK.same("13: none, sent", x.ofBook(0, 4), -1);
        Typist.taps(x, 55);
        x.give(55, 1);
        CHECK.same("13: a worth that is -1, too", x.ofBook(0, 4), -1);
    }

    /** «less its COUNT (9 at most for that)» */
    private static void worthByCount() {
        int[][] due = {{1, 9}, {2, 8}, {8, 2}, {9, 1}, {10, 1}, {11, 1}, {98, 1}, {99, 1}};
        for (int[] row : due) {
            Putitback x = new Putitback();
            x.give(5, row[0]);
            x.tap(4);
            CHECK.same("13: worth of count " + row[0], x.ofBook(0, 4), row[1]);
            CHECK.same("13: count " + row[0], x.ofBook(0, 1), row[0]);
        }
    }

    /** «less 2 * the PAIR of the last WORD SHOWN in the TEXT … with it» */
    private static void worthByPair() {
        Putitback x = new Putitback();
        x.give(5, 1);
        x.give(999999, 1);
        for (int times = 0; times <= 10; times++) {
            x.send();
            x.give(5, 1);
            Typist.write(x, 999999);
            x.tap(5);
            CHECK.same("13: worth after " + times, x.ofBook(0, 4), -1 - 2 * Math.min(times, 9));
            x.blank();
        }
        CHECK.same("14: the pair", x.pair(1, 0), 9);
        x.tap(5);
        x.give(5, 1);
        CHECK.same("13: not the other way", x.ofBook(1, 4), 120 - 9);
        CHECK.same("13: nor with itself", x.ofBook(0, 4), -1);
    }

    private static void worthByTheLastWordShown() {
        Putitback x = new Putitback();
        x.give(55, 1);
        x.give(999999, 1);
        Typist.write(x, 999999);
        Typist.write(x, 55);
        x.send();
        x.give(55, 1);
        x.tap(5);
        CHECK.same("13: no word ahead", x.ofBook(0, 4), 20 - 1);
        x.send();
        Typist.pick(x, 1, 999999);
        x.tap(5);
        CHECK.same("13: by what is shown of it", x.ofBook(0, 4), 20 - 1 - 2);
        x.putBack();
        CHECK.same("13: put back, that is not in the book", x.ofBook(0, 4), 20 - 1);
        x.send();
        Typist.write(x, 999999);
        Typist.write(x, 1);
        x.tap(5);
        CHECK.same("13: the last one alone", x.ofBook(0, 4), 20 - 1);
        x.erase();
        x.erase();
        CHECK.same("13: which is another one, as that is opened", x.ofBook(0, 4), 40 - 1 - 2);
        x.forget(999999);
        CHECK.same("13: not in the book any more", x.ofBook(0, 4), 40 - 1);
    }

    // Promise 14.

    private static void placesOfAPair() {
        CHECK.leaves("14: the first place", Scenes::fullBook, "0", x -> x.pair(0, 0));
        CHECK.leaves("14: the last place", Scenes::fullBook, "0", x -> x.pair(11, 11));
        CHECK.leaves("14: first and last", Scenes::fullOfAll, "1", x -> x.pair(10, 11));
        CHECK.leaves("14: last and first", Scenes::fullOfAll, "0", x -> x.pair(11, 0));
        CHECK.leaves("14: two others", Scenes::fullOfAll, "1", x -> x.pair(0, 1));
        int[] wrong = {-1, 12, 13, Integer.MIN_VALUE, Integer.MAX_VALUE};
        for (int place : wrong) {
            CHECK.leaves("14: pair(" + place + ", 0)", Scenes::fullBook,
                    "throws.IndexOutOfBoundsException", x -> x.pair(place, 0));
            CHECK.leaves("14: pair(11, " + place + ")", Scenes::fullBook,
                    "throws.IndexOutOfBoundsException", x -> x.pair(11, place));
            CHECK.leaves("14: pair(" + place + ", " + place + ")", Scenes::fullBook,
                    "throws.IndexOutOfBoundsException", x -> x.pair(place, place));
        }
    }

    // Promise 15.

    private static void wordsOfTheText() {
        CHECK.leaves("15: of an empty text", Putitback::new, "throws.IndexOutOfBoundsException", x -> x.ofText(0, 0));
        CHECK.leaves("15: the first", Scenes::fullOfAll, "11", x -> x.ofText(0, 1));
        CHECK.leaves("15: the last", Scenes::fullOfAll, "333", x -> x.ofText(11, 1));
        int[] wrong = {-1, 12, 13, Integer.MIN_VALUE, Integer.MAX_VALUE};
        for (int at : wrong) {
            for (int what = -1; what <= 3; what++) {
                int one = what;
                CHECK.leaves("15: ofText(" + at + ", " + what + ") of twelve, what is named first",
                        Scenes::fullText, "throws.IndexOutOfBoundsException", x -> x.ofText(at, one));
            }
        }
        Putitback x = new Putitback();
        for (int size = 0; size < 12; size++) {
            x.tap(3);
            int at = size;
            CHECK.index("15: the open word is not one of them", x, () -> x.ofText(at, 0));
            x.blank();
            CHECK.same("15: now it is", x.ofText(at, 0), 3);
        }
    }

    private static void whatOfTheText() {
        String[] due = {"52", "55", "2"};
        for (int what = 0; what < 3; what++) {
            int one = what;
            CHECK.leaves("15: ofText(11, " + what + ")", Scenes::fullText, due[what], x -> x.ofText(11, one));
        }
        int[] wrong = {-1, 3, 4, Integer.MIN_VALUE, Integer.MAX_VALUE};
        for (int what : wrong) {
            CHECK.leaves("15: ofText(0, " + what + ")", Scenes::fullText,
                    "throws.IllegalArgumentException", x -> x.ofText(0, what));
            CHECK.leaves("15: ofText(11, " + what + ")", Scenes::fullText,
                    "throws.IllegalArgumentException", x -> x.ofText(11, what));
        }
    }

    // Promises 16 and 17.

    private static void handsAndWhatOfThem() {
        String[][] due = {{"2", "1", "1"}, {"2", "1", "1"}, {"0", "2", "3"}};
        for (int hand = 0; hand < 3; hand++) {
            for (int what = 0; what < 3; what++) {
                int one = hand;
                int other = what;
                CHECK.leaves("16: ofHand(" + hand + ", " + what + ")", Scenes::busy,
                        due[hand][what], x -> x.ofHand(one, other));
            }
        }
        int[] wrong = {-1, 3, 4, Integer.MIN_VALUE, Integer.MAX_VALUE};
        for (int number : wrong) {
            for (int other = 0; other <= 2; other++) {
                int one = other;
                CHECK.leaves("16: ofHand(" + number + ", " + one + ")", Scenes::busy,
                        "throws.IndexOutOfBoundsException", x -> x.ofHand(number, one));
                CHECK.leaves("16: ofHand(" + one + ", " + number + ")", Scenes::busy,
                        "throws.IllegalArgumentException", x -> x.ofHand(one, number));
            }
            CHECK.leaves("16: both wrong, what is named first", Scenes::busy,
                    "throws.IndexOutOfBoundsException", x -> x.ofHand(number, number));
            CHECK.leaves("16: both wrong, what is named first", Scenes::busy,
                    "throws.IndexOutOfBoundsException", x -> x.ofHand(number, -1));
        }
    }

    private static void putBacksOfHandsAndWords() {
        int[][] due = {{0, 56, 1}, {1, 56, 1}, {2, 56, 1}, {2, 54, 2}, {0, 54, 0}, {1, 55, 0}, {2, 999999, 0}, {0, 1, 0}};
        for (int[] row : due) {
            CHECK.leaves("17: putBacks(" + row[0] + ", " + row[1] + ")", Scenes::busy,
                    "" + row[2], x -> x.putBacks(row[0], row[1]));
        }
        int[] wrong = {-1, 3, 4, Integer.MIN_VALUE, Integer.MAX_VALUE};
        for (int hand : wrong) {
            CHECK.leaves("17: putBacks(" + hand + ", 56)", Scenes::busy,
                    "throws.IndexOutOfBoundsException", x -> x.putBacks(hand, 56));
            CHECK.leaves("17: both wrong, what is named first", Scenes::busy,
                    "throws.IndexOutOfBoundsException", x -> x.putBacks(hand, 0));
        }
        int[] noWords = {0, 10, 1000000, 1111111, -1, Integer.MIN_VALUE, Integer.MAX_VALUE};
        for (int word : noWords) {
            for (int hand = 0; hand < 3; hand++) {
                int one = hand;
                CHECK.leaves("17: putBacks(" + hand + ", " + word + ")", Scenes::busy,
                        "throws.IllegalArgumentException", x -> x.putBacks(one, word));
            }
        }
    }

    // Promise 18.

    private static void houseZeroToNine() {
        String[] busy = {"3", "1", "3", "12", "1", "3", "1", "5", "17", "1"};
        String[] full = {"12", "1", "12", "999999", "0", "999", "0", "3", "42", "0"};
        for (int what = 0; what <= 9; what++) {
            int one = what;
            CHECK.leaves("18: house(" + what + ") of a new one", Putitback::new, "0", x -> x.house(one));
            CHECK.leaves("18: house(" + what + ") of a busy one", Scenes::busy, busy[what], x -> x.house(one));
            CHECK.leaves("18: house(" + what + ") full of all", Scenes::fullOfAll, full[what], x -> x.house(one));
        }
        int[] wrong = {-1, 10, 11, Integer.MIN_VALUE, Integer.MAX_VALUE};
        for (int what : wrong) {
            CHECK.leaves("18: house(" + what + ")", Scenes::busy,
                    "throws.IllegalArgumentException", x -> x.house(what));
        }
    }

    // Promises 19 and 20.

    private static void textsOfNothingAndOfAll() {
        Putitback x = new Putitback();
        CHECK.same("19: nothing", x.text(), "");
        CHECK.same("20: nothing", x.typed(), "");
        x.tap(1);
        CHECK.same("19: no blank behind the open word", x.text(), "1");
        CHECK.same("20: no blank behind the open word", x.typed(), "1");
        x.blank();
        CHECK.same("19: a blank behind a word", x.text(), "1 ");
        CHECK.same("20: a blank behind a word", x.typed(), "1 ");
        Putitback y = Scenes.fullText();
        CHECK.same("19: all", y.text(), "55 55 55 55 55 55 55 55 55 55 55 55 123456");
        CHECK.same("20: all", y.typed(), "55 55 55 55 55 55 55 55 55 55 55 52 123456");
        y.putBack();
        CHECK.same("19: put back", y.text(), "55 55 55 55 55 55 55 55 55 55 55 52 123456");
        Putitback z = new Putitback();
        StringBuilder due = new StringBuilder();
        for (int i = 0; i < 12; i++) {
            Typist.write(z, 999999);
            due.append("999999 ");
        }
        Typist.taps(z, 999999);
        CHECK.same("19: as long as can be", z.text(), due + "999999");
        CHECK.same("20: as long as can be", z.typed(), due + "999999");
        CHECK.same("11: send", z.send(), 12);
        CHECK.same("19: nothing again", z.text() + z.typed(), "");
    }

    // Promise 21.

    private static void offersOfNoneToTwelve() {
        int[] below = {-1, -2, Integer.MIN_VALUE};
        for (int nth : below) {
            Scenes.all().forEach((name, scene) -> CHECK.leaves("21: offer(" + nth + ") of " + name, scene,
                    "throws.IllegalArgumentException", x -> x.offer(nth)));
        }
        int[] beyond = {12, 13, Integer.MAX_VALUE};
        for (int nth : beyond) {
            Scenes.all().forEach((name, scene) -> CHECK.leaves("21: offer(" + nth + ") of " + name, scene,
                    "-1", x -> x.offer(nth)));
        }
        CHECK.leaves("21: no key", Scenes::lastDay, "-1", x -> x.offer(0));
        Putitback x = new Putitback();
        x.tap(1);
        CHECK.same("21: an empty book", x.offer(0), -1);
        for (int size = 1; size <= 12; size++) {
            x.give(Scenes.TWELVE[size - 1], 1);
            CHECK.yes("21: the last one", x.offer(size - 1) > 0);
            CHECK.same("21: as much as there are", x.offer(size), -1);
        }
        x.erase();
        CHECK.same("21: no key in a full book", x.offer(0), -1);
    }

    /** «OFFERS are the WORDS of the BOOK by rising WORTH (of several the first one is ahead).» */
    private static void offersByRisingWorth() {
        Putitback x = new Putitback();
        int[] words = {99, 19, 11, 91, 12, 15, 22, 21};
        Typist.giveAll(x, words);
        Typist.taps(x, 11);
        int[] due = {11, 12, 21, 19, 91, 15, 22, 99};
        for (int nth = 0; nth < 8; nth++) {
            CHECK.same("21: by cost, then by place", x.offer(nth), due[nth]);
        }
        x.give(99, 99);
        x.give(91, 2);
        x.give(21, 2);
        int[] then = {11, 21, 12, 91, 19, 15, 22, 99};
        for (int nth = 0; nth < 8; nth++) {
            CHECK.same("21: by count, too", x.offer(nth), then[nth]);
        }
        for (int nth = 1; nth < 8; nth++) {
            CHECK.yes("21: rising", worthOf(x, then[nth - 1]) <= worthOf(x, then[nth]));
        }
        CHECK.same("8: choose takes the same", x.choose(3), 91);
    }

    private static int worthOf(Putitback x, int word) {
        for (int place = 0; place < x.house(0); place++) {
            if (x.ofBook(place, 0) == word) {
                return x.ofBook(place, 4);
            }
        }
        throw new IllegalStateException("not in the book: " + word);
    }

    // Promise 22.

    private static void wouldShowOfHands() {
        int[] due = {55, 55, 54};
        Putitback x = Scenes.busy();
        x.send();
        Typist.taps(x, 54);
        for (int hand = 0; hand < 3; hand++) {
            CHECK.same("22: wouldShow(" + hand + ")", x.wouldShow(hand), due[hand]);
        }
        x.give(54, 1);
        for (int hand = 0; hand < 3; hand++) {
            CHECK.same("22: in the book", x.wouldShow(hand), 54);
        }
        CHECK.leaves("22: cost 3 with trust 2", Scenes::busy, "1", y -> y.wouldShow(0));
        CHECK.leaves("22: cost 2 with trust 0", Scenes::busy, "12", y -> y.wouldShow(2));
        CHECK.leaves("22: who types does not matter", Scenes::fullBook, "88", y -> y.wouldShow(2));
        int[] wrong = {-1, 3, 4, Integer.MIN_VALUE, Integer.MAX_VALUE};
        for (int hand : wrong) {
            Scenes.all().forEach((name, scene) -> CHECK.leaves("22: wouldShow(" + hand + ") of " + name, scene,
                    "throws.IndexOutOfBoundsException", y -> y.wouldShow(hand)));
        }
        for (int hand = 0; hand < 3; hand++) {
            int one = hand;
            CHECK.leaves("22: no key", Scenes::lastDay, "-1", y -> y.wouldShow(one));
            CHECK.leaves("22: a new one", Putitback::new, "-1", y -> y.wouldShow(one));
            Putitback y = new Putitback();
            y.tap(7);
            CHECK.same("22: an empty book", y.wouldShow(hand), 7);
        }
    }

    /** «(also if the TEXT has 12 WORDS)» */
    private static void wouldShowInAFullText() {
        Putitback x = Scenes.fullText();
        CHECK.same("22: too far from all", x.wouldShow(0), 123456);
        for (int i = 0; i < 4; i++) {
            x.erase();
        }
        x.erase();
        x.tap(4);
        x.tap(5);
        CHECK.same("18: 145 is open", x.house(3), 145);
        CHECK.same("22: cost 3 with trust 3", x.wouldShow(1), 55);
        CHECK.state("7: but it is full", x, x::blank);
    }

    // Promise 23.

    /** What rules lead to is sound, at the edges, too; SoundnessTest sees to the answer "no". */
    private static void soundAtTheEdges() {
        Scenes.all().forEach((name, scene) -> CHECK.leaves("23: " + name, scene, "1", x -> x.isSound() ? 1 : 0));
        int[] allNear = {1, 2, 3, 4, 5, 6, 7, 8, 9, 11, 111111, 999999};
        Putitback x = new Putitback();
        Typist.giveAll(x, allNear);
        CHECK.yes("23: ways over a third one that cost the same", x.isSound());
        Putitback y = new Putitback();
        y.give(5, 50);
        for (int times = 1; times <= 4; times++) {
            Typist.mend(y, 1, 4, 5, 1);
            y.forget(4);
            CHECK.yes("23: put back " + times + " times", y.isSound());
            y.tap(6);
            CHECK.yes("23: with another word open", y.isSound());
            y.erase();
        }
        y.forget(5);
        CHECK.yes("23: with an empty book", y.isSound());
    }

    // Promise 24.

    private static void knocksAreCounted() {
        Putitback x = new Putitback();
        for (int i = 1; i <= 100; i++) {
            CHECK.same("24: with this", x.knock(), i);
            CHECK.same("18: refused", x.house(9), i);
        }
        CHECK.argument("24: a refused call is none of them", x, () -> x.give(0, 0));
        CHECK.state("24: a refused call is none of them", x, x::blank);
        CHECK.same("18: refused", x.house(9), 100);
        x.pass(60);
        x.send();
        CHECK.same("24: for good", x.knock(), 101);
        int[] others = {0, 1, 2, 3, 4, 6, 7, 8};
        for (int what : others) {
            CHECK.same("24: nothing else is counted", x.house(what), 0);
        }
    }
}
