/** Promises 12 to 20: cost, ofBook, pair, ofText, ofHand, putBacks, house, text, typed. */
public final class AskedTest {
    private static final Check CHECK = new Check();
    private static final int[] NO_WORDS = {0, -1, -12, 10, 101, 120, 1000000, 1111111, Integer.MIN_VALUE, Integer.MAX_VALUE};

    public static void main(String[] args) {
        costOfKeys();
        costOfWords();
        costRefuses();
        bookTells();
        bookTellsWorth();
        bookRefuses();
        pairTells();
        textTells();
        handTells();
        putBacksTells();
        houseTells();
        textsTell();
        CHECK.end("AskedTest");
    }

    private static void costOfKeys() {
        String[] near = {"24", "135", "26", "157", "2468", "359", "48", "579", "68"};
        Putitback x = new Putitback();
        for (int one = 1; one <= 9; one++) {
            for (int other = 1; other <= 9; other++) {
                int due = one == other ? 0 : near[one - 1].indexOf('0' + other) >= 0 ? 1 : 2;
                CHECK.same("12: keys " + one + " " + other, x.cost(one, other), due);
            }
        }
    }

    private static void costOfWords() {
        Putitback x = new Putitback();
        int[][] due = {
            {123456, 123456, 0}, {1, 111111, 10}, {111111, 1, 10}, {999999, 111111, 12}, {12, 21, 2},
            {123, 13, 2}, {13, 123, 2}, {123, 23, 2}, {123, 12, 2}, {159, 951, 4}, {123456, 234561, 4},
            {1379, 2468, 6}, {19, 91, 4}, {123456, 654321, 10}, {789, 123, 6}, {456, 123, 3}, {456, 789, 3},
            {147, 258, 3}, {34, 67, 2}, {147147, 47147, 2}, {112233, 123, 6}, {5, 258, 4}, {34, 43, 4}};
        for (int[] row : due) {
            CHECK.same("12: cost(" + row[0] + ", " + row[1] + ")", x.cost(row[0], row[1]), row[2]);
            CHECK.same("12: cost(" + row[1] + ", " + row[0] + ")", x.cost(row[1], row[0]), row[2]);
        }
        CHECK.same("12: asked of no book", x.house(0), 0);
    }

    private static void costRefuses() {
        Putitback x = new Putitback();
        for (int word : NO_WORDS) {
            CHECK.argument("12: cost(" + word + ", 1)", x, () -> x.cost(word, 1));
            CHECK.argument("12: cost(1, " + word + ")", x, () -> x.cost(1, word));
            CHECK.argument("12: cost(" + word + ", " + word + ")", x, () -> x.cost(word, word));
        }
    }

    private static void bookTells() {
        Putitback x = new Putitback();
        x.give(55, 8);
        x.pass(2);
        for (int hand = 0; hand < 3; hand++) {
            x.hand(hand);
            Typist.write(x, 56);
            x.putBack();
        }
        x.pass(3);
        Typist.write(x, 56);
        int[][] due = {{55, 11, 0, 2, -1}, {56, 2, 1, 5, -1}};
        for (int place = 0; place < 2; place++) {
            for (int what = 0; what < 5; what++) {
                CHECK.same("13: ofBook(" + place + ", " + what + ")", x.ofBook(place, what), due[place][what]);
            }
        }
    }

    private static void bookTellsWorth() {
        Putitback x = new Putitback();
        x.give(55, 8);
        x.give(123456, 98);
        CHECK.same("13: no open word", x.ofBook(0, 4), -1);
        x.tap(5);
        CHECK.same("13: cost 2, count 8", x.ofBook(0, 4), 20 - 8);
        CHECK.same("13: cost 10, count 98", x.ofBook(1, 4), 100 - 9);
        x.tap(5);
        CHECK.same("13: cost 0, count 8", x.ofBook(0, 4), -8);
        x.blank();
        Typist.write(x, 55);
        Typist.write(x, 55);
        x.tap(8);
        CHECK.same("13: two pairs", x.ofBook(0, 4), 30 - 9 - 4);
        CHECK.same("13: none with the other, cost 11", x.ofBook(1, 4), 110 - 9);
        x.send();
        x.tap(8);
        CHECK.same("13: none ahead of it", x.ofBook(0, 4), 30 - 9);
        x.send();
        Typist.write(x, 55);
        Typist.write(x, 9999);
        x.tap(8);
        CHECK.same("13: the last one is not in the book", x.ofBook(0, 4), 30 - 9);
        x.send();
        Typist.write(x, 55);
        x.forget(55);
        x.tap(8);
        CHECK.same("13: nor is a forgotten one", x.ofBook(0, 4), 110 - 9);
        x.give(55, 1);
        CHECK.same("13: its pairs are gone", x.ofBook(1, 4), 30 - 1);
        x.send();
        CHECK.same("13: sent", x.ofBook(0, 4), -1);
    }

    private static void bookRefuses() {
        Putitback x = new Putitback();
        CHECK.index("13: an empty book", x, () -> x.ofBook(0, 0));
        x.give(1, 1);
        x.give(2, 1);
        int[] noPlaces = {-1, 2, 12, Integer.MIN_VALUE, Integer.MAX_VALUE};
        for (int place : noPlaces) {
            CHECK.index("13: ofBook(" + place + ", 0)", x, () -> x.ofBook(place, 0));
            CHECK.index("13: ofBook(" + place + ", 5)", x, () -> x.ofBook(place, 5));
            CHECK.index("14: pair(" + place + ", 0)", x, () -> x.pair(place, 0));
            CHECK.index("14: pair(0, " + place + ")", x, () -> x.pair(0, place));
        }
        int[] noWhats = {-1, 5, Integer.MIN_VALUE, Integer.MAX_VALUE};
        for (int what : noWhats) {
            CHECK.argument("13: ofBook(0, " + what + ")", x, () -> x.ofBook(0, what));
        }
    }

    private static void pairTells() {
        Putitback x = new Putitback();
        x.give(1, 1);
        x.give(999, 1);
        for (int i = 0; i < 3; i++) {
            Typist.write(x, 1);
            Typist.write(x, 999);
        }
        CHECK.same("14: the other behind the one", x.pair(0, 1), 3);
        CHECK.same("14: the one behind the other", x.pair(1, 0), 2);
        CHECK.same("14: with itself", x.pair(0, 0), 0);
        CHECK.same("14: with itself, too", x.pair(1, 1), 0);
    }

    private static void textTells() {
        Putitback x = new Putitback();
        CHECK.index("15: no word", x, () -> x.ofText(0, 0));
        x.give(55, 1);
        Typist.write(x, 55);
        x.hand(2);
        Typist.write(x, 58);
        x.hand(1);
        x.tap(4);
        int[][] due = {{55, 55, 0}, {58, 55, 2}};
        for (int at = 0; at < 2; at++) {
            for (int what = 0; what < 3; what++) {
                CHECK.same("15: ofText(" + at + ", " + what + ")", x.ofText(at, what), due[at][what]);
            }
        }
        int[] none = {-1, 2, 12, Integer.MIN_VALUE, Integer.MAX_VALUE};
        for (int at : none) {
            CHECK.index("15: ofText(" + at + ", 0)", x, () -> x.ofText(at, 0));
            CHECK.index("15: ofText(" + at + ", 3)", x, () -> x.ofText(at, 3));
        }
        int[] noWhats = {-1, 3, Integer.MIN_VALUE, Integer.MAX_VALUE};
        for (int what : noWhats) {
            CHECK.argument("15: ofText(1, " + what + ")", x, () -> x.ofText(1, what));
        }
    }

    private static void handTells() {
        Putitback x = new Putitback();
        x.give(55, 1);
        int[] typed = {56, 56, 54, 52};
        for (int word : typed) {
            Typist.chooseNth(x, word, 0);
            x.putBack();
        }
        x.hand(2);
        Typist.write(x, 58);
        x.putBack();
        int[][] due = {{0, 3, 4}, {3, 0, 0}, {2, 1, 1}};
        for (int hand = 0; hand < 3; hand++) {
            for (int what = 0; what < 3; what++) {
                CHECK.same("16: ofHand(" + hand + ", " + what + ")", x.ofHand(hand, what), due[hand][what]);
            }
        }
        int[] none = {-1, 3, Integer.MIN_VALUE, Integer.MAX_VALUE};
        for (int bad : none) {
            CHECK.index("16: ofHand(" + bad + ", 0)", x, () -> x.ofHand(bad, 0));
            CHECK.index("16: ofHand(" + bad + ", 3)", x, () -> x.ofHand(bad, 3));
            CHECK.argument("16: ofHand(0, " + bad + ")", x, () -> x.ofHand(0, bad));
        }
    }

    private static void putBacksTells() {
        Putitback x = new Putitback();
        x.give(55, 1);
        Typist.write(x, 56);
        x.putBack();
        Typist.write(x, 56);
        x.putBack();
        x.hand(1);
        Typist.write(x, 54);
        x.putBack();
        CHECK.same("17: twice", x.putBacks(0, 56), 2);
        CHECK.same("17: of another word", x.putBacks(0, 54), 0);
        CHECK.same("17: of another hand", x.putBacks(1, 56), 0);
        CHECK.same("17: once", x.putBacks(1, 54), 1);
        CHECK.same("17: what was shown is not counted", x.putBacks(0, 55), 0);
        x.send();
        x.forget(55);
        x.pass(60);
        x.give(56, 1);
        x.forget(56);
        CHECK.same("17: kept for good", x.putBacks(0, 56), 2);
        for (int word : NO_WORDS) {
            CHECK.argument("17: putBacks(0, " + word + ")", x, () -> x.putBacks(0, word));
            CHECK.index("17: putBacks(3, " + word + ")", x, () -> x.putBacks(3, word));
        }
        int[] noHands = {-1, 3, Integer.MIN_VALUE, Integer.MAX_VALUE};
        for (int hand : noHands) {
            CHECK.index("17: putBacks(" + hand + ", 1)", x, () -> x.putBacks(hand, 1));
        }
    }

    private static void houseTells() {
        Putitback x = new Putitback();
        x.give(55, 1);
        x.give(1, 1);
        x.pass(5);
        for (int hand = 0; hand < 3; hand++) {
            x.hand(hand);
            Typist.write(x, 56);
            x.putBack();
        }
        Typist.write(x, 2299);
        Typist.write(x, 52);
        x.tap(7);
        x.tap(8);
        x.erase();
        x.knock();
        int[] due = {3, 1, 5, 7, 2, 5, 4, 3, 14, 1};
        for (int what = 0; what < 10; what++) {
            CHECK.same("18: house(" + what + ")", x.house(what), due[what]);
        }
        int[] noWhats = {-1, 10, Integer.MIN_VALUE, Integer.MAX_VALUE};
        for (int what : noWhats) {
            CHECK.argument("18: house(" + what + ")", x, () -> x.house(what));
        }
    }

    private static void textsTell() {
        Putitback x = new Putitback();
        x.tap(9);
        CHECK.same("19: an open word alone", x.text(), "9");
        CHECK.same("20: an open word alone", x.typed(), "9");
        x.blank();
        x.give(55, 1);
        Typist.write(x, 56);
        CHECK.same("19: a blank behind each", x.text(), "9 55 ");
        CHECK.same("20: a blank behind each", x.typed(), "9 56 ");
        x.tap(1);
        x.tap(2);
        CHECK.same("19: then the open word", x.text(), "9 55 12");
        CHECK.same("20: then the open word", x.typed(), "9 56 12");
        x.erase();
        x.erase();
        x.putBack();
        CHECK.same("19: put back", x.text(), "9 56 ");
        CHECK.same("20: put back", x.typed(), "9 56 ");
        for (int i = 0; i < 10; i++) {
            Typist.write(x, 987654);
        }
        x.tap(3);
        CHECK.same("19: signs of a full text", x.text().length(), 2 + 3 + 70 + 1);
        CHECK.same("20: signs of a full text", x.typed().length(), 2 + 3 + 70 + 1);
    }
}
