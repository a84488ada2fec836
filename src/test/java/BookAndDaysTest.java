/** Promises 1 to 4: a new object, give, forget, pass. */
public final class BookAndDaysTest {
    private static final Check CHECK = new Check();

    public static void main(String[] args) {
        aNewOneIsEmpty();
        giveGives();
        giveRefuses();
        giveMakesALearntOneGiven();
        forgetTakesOut();
        forgetMovesPairs();
        forgetRefuses();
        passRaisesTrust();
        passLetsLearntWordsGo();
        passLetsSeveralGo();
        theFirstPlaceIsNoOther();
        passRefuses();
        CHECK.end("BookAndDaysTest");
    }

    private static void aNewOneIsEmpty() {
        Putitback x = new Putitback();
        for (int what = 0; what <= 9; what++) {
            CHECK.same("1: house(" + what + ")", x.house(what), 0);
        }
        for (int hand = 0; hand < 3; hand++) {
            CHECK.same("1: trust", x.ofHand(hand, 0), 3);
            CHECK.same("1: words put back", x.ofHand(hand, 1), 0);
            CHECK.same("1: put backs", x.ofHand(hand, 2), 0);
            CHECK.same("1: wouldShow", x.wouldShow(hand), -1);
        }
        CHECK.same("1: text", x.text(), "");
        CHECK.same("1: typed", x.typed(), "");
        CHECK.same("1: offer", x.offer(0), -1);
        CHECK.yes("1: sound", x.isSound());
        Putitback other = new Putitback();
        x.give(1, 1);
        CHECK.same("1: two objects share nothing", other.house(0), 0);
    }

    private static void giveGives() {
        Putitback x = new Putitback();
        CHECK.same("2: first place", x.give(1, 1), 0);
        CHECK.same("2: second place", x.give(999999, 99), 1);
        CHECK.same("2: third place", x.give(111111, 50), 2);
        CHECK.same("2: word", x.ofBook(1, 0), 999999);
        CHECK.same("2: count", x.ofBook(1, 1), 99);
        CHECK.same("2: given", x.ofBook(1, 2), 0);
        CHECK.same("2: day", x.ofBook(1, 3), 0);
        x.pass(7);
        CHECK.same("2: again, at its place", x.give(999999, 2), 1);
        CHECK.same("2: the count from now on", x.ofBook(1, 1), 2);
        CHECK.same("2: the day from now on", x.ofBook(1, 3), 7);
        CHECK.same("2: no word twice", x.house(0), 3);
        CHECK.same("2: another day is left", x.ofBook(0, 3), 0);
        Typist.write(x, 1);
        Typist.write(x, 111111);
        CHECK.same("2: a pair", x.pair(0, 2), 1);
        x.give(111111, 1);
        CHECK.same("2: pairs stay as it is given again", x.pair(0, 2), 1);
    }

    private static void giveRefuses() {
        Putitback x = new Putitback();
        int[] noWords = {0, -1, 10, 101, 1000000, 1111111, -11, 120, Integer.MIN_VALUE, Integer.MAX_VALUE};
        for (int word : noWords) {
            CHECK.argument("2: give(" + word + ", 1)", x, () -> x.give(word, 1));
        }
        int[] noCounts = {0, -1, 100, Integer.MIN_VALUE, Integer.MAX_VALUE};
        for (int count : noCounts) {
            CHECK.argument("2: give(1, " + count + ")", x, () -> x.give(1, count));
        }
        for (int i = 0; i < 12; i++) {
            CHECK.same("2: place", x.give(111 + i / 9 * 10 + i % 9, 1), i);
        }
        CHECK.state("2: the thirteenth", x, () -> x.give(5, 1));
        CHECK.argument("2: no count ahead of a full book", x, () -> x.give(5, 0));
        CHECK.argument("2: no word ahead of a full book", x, () -> x.give(50, 1));
        CHECK.same("2: one of a full book", x.give(111, 8), 0);
        CHECK.same("2: its count", x.ofBook(0, 1), 8);
    }

    /** Two words in the book: 55 is given, 56 is learnt; the text is empty. */
    private static Putitback withLearnt56() {
        Putitback x = new Putitback();
        x.give(55, 9);
        for (int hand = 0; hand < 3; hand++) {
            x.hand(hand);
            Typist.write(x, 56);
            x.putBack();
        }
        x.send();
        return x;
    }

    private static void giveMakesALearntOneGiven() {
        Putitback x = withLearnt56();
        CHECK.same("2: learnt", x.ofBook(1, 2), 1);
        CHECK.same("2: given", x.give(56, 4), 1);
        CHECK.same("2: no more learnt", x.ofBook(1, 2), 0);
        CHECK.same("2: count of it", x.ofBook(1, 1), 4);
        CHECK.same("2: no learnt ones", x.house(1), 0);
        CHECK.same("2: a given one does not go", x.pass(60), 0);
    }

    private static void forgetTakesOut() {
        Putitback x = new Putitback();
        x.give(1, 1);
        x.give(33, 2);
        x.pass(1);
        x.give(777, 3);
        Typist.write(x, 1);
        Typist.write(x, 777);
        Typist.write(x, 33);
        Typist.write(x, 777);
        Typist.write(x, 777);
        CHECK.same("3: pair ahead", x.pair(0, 2), 1);
        x.pass(2);
        x.give(33, 2);
        CHECK.yes("3: it was there", x.forget(33));
        CHECK.same("3: words", x.house(0), 2);
        CHECK.same("3: the one behind moves", x.ofBook(1, 0), 777);
        CHECK.same("3: with its count", x.ofBook(1, 1), 6);
        CHECK.same("3: with its day", x.ofBook(1, 3), 1);
        CHECK.same("3: with its pairs", x.pair(0, 1), 1);
        CHECK.same("3: with itself", x.pair(1, 1), 1);
        CHECK.same("3: and the other way", x.pair(1, 0), 0);
        CHECK.no("3: it is not there", x.forget(33));
        x.give(33, 1);
        CHECK.same("3: behind all", x.ofBook(2, 0), 33);
        for (int other = 0; other < 3; other++) {
            CHECK.same("3: its pairs are gone", x.pair(2, other), 0);
            CHECK.same("3: both ways", x.pair(other, 2), 0);
        }
        CHECK.same("3: the text stays", x.text(), "1 777 33 777 777 ");
    }

    /** Three words, with other pairs each way, and the first of them goes. */
    private static void forgetMovesPairs() {
        Putitback x = new Putitback();
        x.give(1, 1);
        x.give(33, 1);
        x.give(777, 1);
        int[] row = {33, 777, 33, 777, 777, 1, 33, 33, 33, 33, 1, 777};
        for (int word : row) {
            Typist.write(x, word);
        }
        x.forget(1);
        int[][] due = {{3, 2}, {1, 1}};
        for (int one = 0; one < 2; one++) {
            for (int other = 0; other < 2; other++) {
                CHECK.same("3: pair(" + one + ", " + other + ")", x.pair(one, other), due[one][other]);
            }
        }
        x.give(1, 1);
        for (int other = 0; other < 3; other++) {
            CHECK.same("3: none of the new one", x.pair(2, other), 0);
            CHECK.same("3: none with the new one", x.pair(other, 2), 0);
        }
    }

    private static void theFirstPlaceIsNoOther() {
        Putitback x = withLearnt56();
        x.forget(55);
        CHECK.same("4: a learnt one at the first place", x.ofBook(0, 2), 1);
        CHECK.same("4: it is counted", x.house(1), 1);
        CHECK.same("4: it stays for 29 days", x.pass(29), 0);
        CHECK.same("4: and goes, too", x.pass(1), 1);
        CHECK.same("4: an empty book", x.house(0), 0);
    }

    private static void forgetRefuses() {
        Putitback x = new Putitback();
        x.give(1, 1);
        int[] noWords = {0, -1, 10, 101, 1000000, Integer.MIN_VALUE, Integer.MAX_VALUE};
        for (int word : noWords) {
            CHECK.argument("3: forget(" + word + ")", x, () -> x.forget(word) ? 1 : 0);
        }
    }

    private static void passRaisesTrust() {
        Putitback x = new Putitback();
        x.give(55, 9);
        Typist.write(x, 56);
        x.putBack();
        Typist.write(x, 54);
        x.putBack();
        Typist.write(x, 52);
        x.putBack();
        CHECK.same("4: trust fell", x.ofHand(0, 0), 0);
        CHECK.same("4: pass", x.pass(1), 0);
        CHECK.same("4: trust is 1 more", x.ofHand(0, 0), 1);
        CHECK.same("4: 3 at most", x.ofHand(1, 0), 3);
        x.pass(2);
        CHECK.same("4: trust by days", x.ofHand(0, 0), 3);
        x.pass(60);
        CHECK.same("4: 3 at most, again", x.ofHand(0, 0), 3);
        CHECK.same("4: today", x.house(5), 63);
    }

    private static void passLetsLearntWordsGo() {
        Putitback x = withLearnt56();
        CHECK.same("4: 29 days", x.pass(29), 0);
        Typist.write(x, 56);
        CHECK.same("4: used", x.ofBook(1, 3), 29);
        CHECK.same("4: 29 days later", x.pass(29), 0);
        CHECK.same("4: 30 days later", x.pass(1), 1);
        CHECK.same("4: the given one stays", x.ofBook(0, 0), 55);
        CHECK.same("4: words", x.house(0), 1);
        CHECK.same("4: no more", x.pass(60), 0);
        CHECK.same("4: 30 at once", withLearnt56().pass(30), 1);
        CHECK.same("4: 60 at once", withLearnt56().pass(60), 1);
    }

    private static void passLetsSeveralGo() {
        Putitback x = withLearnt56();
        x.give(77, 9);
        for (int hand = 0; hand < 3; hand++) {
            x.hand(hand);
            x.pass(1);
            Typist.write(x, 58);
            x.putBack();
        }
        x.give(9, 1);
        CHECK.same("4: 55 56 77 58 9", x.house(0), 5);
        CHECK.same("4: 58 behind 77", x.ofBook(3, 0), 58);
        CHECK.same("4: learnt on day 3", x.ofBook(3, 3), 3);
        CHECK.same("4: 56 goes first", x.pass(27), 1);
        CHECK.same("4: 58 moved", x.ofBook(2, 0), 58);
        CHECK.same("4: then 58", x.pass(3), 1);
        CHECK.same("4: 9 moved", x.ofBook(2, 0), 9);
        CHECK.same("4: 77 stays", x.ofBook(1, 0), 77);
        bothGoOnOneDay();
    }

    private static void bothGoOnOneDay() {
        Putitback x = withLearnt56();
        for (int hand = 0; hand < 3; hand++) {
            x.hand(hand);
            x.tap(9);
            x.choose(0);
            x.putBack();
        }
        CHECK.same("4: two learnt ones", x.house(1), 2);
        CHECK.same("4: both go on one day", x.pass(30), 2);
        CHECK.same("4: one stays", x.house(0), 1);
    }

    private static void passRefuses() {
        Putitback x = new Putitback();
        int[] noDays = {0, -1, 61, Integer.MIN_VALUE, Integer.MAX_VALUE};
        for (int days : noDays) {
            CHECK.argument("4: pass(" + days + ")", x, () -> x.pass(days));
        }
        for (int i = 0; i < 16; i++) {
            x.pass(60);
        }
        CHECK.same("4: today", x.house(5), 960);
        CHECK.state("4: to the day 1000", x, () -> x.pass(40));
        CHECK.argument("4: no days ahead of too many", x, () -> x.pass(61));
        x.pass(39);
        CHECK.same("4: the last day", x.house(5), 999);
        CHECK.state("4: none more", x, () -> x.pass(1));
        CHECK.argument("4: none at all", x, () -> x.pass(0));
    }
}
