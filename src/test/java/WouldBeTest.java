import java.util.ArrayList;
import java.util.List;

/** Promises 21 to 25: offer, wouldShow, isSound, knock, digest; and that asking changes nothing. */
public final class WouldBeTest {
    private static final Check CHECK = new Check();

    public static void main(String[] args) {
        offerTells();
        wouldShowTells();
        itIsSound();
        knockCounts();
        digestOfANewOne();
        digestOfAFullOne();
        askingChangesNothing();
        lateCallsEnd();
        CHECK.end("WouldBeTest");
    }

    private static void offerTells() {
        Putitback x = new Putitback();
        x.tap(1);
        CHECK.same("21: an empty book", x.offer(0), -1);
        x.send();
        x.give(33, 1);
        x.give(22, 1);
        x.give(11, 9);
        x.give(44, 1);
        CHECK.same("21: no key", x.offer(0), -1);
        x.tap(1);
        int[] due = {11, 22, 44, 33, -1};
        for (int nth = 0; nth < due.length; nth++) {
            CHECK.same("21: offer(" + nth + ")", x.offer(nth), due[nth]);
        }
        CHECK.same("21: none far behind", x.offer(Integer.MAX_VALUE), -1);
        int[] none = {-1, Integer.MIN_VALUE};
        for (int nth : none) {
            CHECK.argument("21: offer(" + nth + ")", x, () -> x.offer(nth));
        }
        x.send();
        for (int nth : none) {
            CHECK.argument("21: offer(" + nth + ") without a key", x, () -> x.offer(nth));
        }
        for (int i = 0; i < 4; i++) {
            Typist.write(x, 44);
            Typist.write(x, 33);
            x.send();
        }
        x.give(33, 1);
        Typist.write(x, 44);
        x.give(44, 1);
        x.tap(1);
        CHECK.same("21: the pair is worth 8", x.ofBook(0, 4), 40 - 1 - 8);
        int[] byPair = {11, 22, 44, 33};
        for (int nth = 0; nth < byPair.length; nth++) {
            CHECK.same("21: by pairs offer(" + nth + ")", x.offer(nth), byPair[nth]);
        }
        x.blank();
        CHECK.same("21: after a blank", x.offer(0), -1);
    }

    private static void wouldShowTells() {
        Putitback x = new Putitback();
        x.give(55, 9);
        CHECK.same("22: no key", x.wouldShow(0), -1);
        for (int i = 0; i < 2; i++) {
            Typist.write(x, 56);
            x.putBack();
        }
        x.hand(1);
        x.tap(5);
        x.tap(6);
        CHECK.same("22: put back twice by this hand", x.wouldShow(0), 56);
        CHECK.same("22: the first offer for another", x.wouldShow(1), 55);
        x.erase();
        CHECK.same("22: trust 1 is too little for 2", x.wouldShow(0), 5);
        CHECK.same("22: trust 3 is not", x.wouldShow(2), 55);
        CHECK.same("22: nothing is changed by that", x.house(6), 2);
        x.tap(5);
        CHECK.same("22: in the book", x.wouldShow(0), 55);
        x.blank();
        for (int i = 0; i < 9; i++) {
            Typist.write(x, 55);
        }
        x.tap(5);
        x.tap(8);
        CHECK.state("22: the text is full", x, x::blank);
        CHECK.same("22: also if the text is full", x.wouldShow(1), 55);
        CHECK.same("22: with cost 1 and trust 1", x.wouldShow(0), 55);
        int[] noHands = {-1, 3, Integer.MIN_VALUE, Integer.MAX_VALUE};
        for (int hand : noHands) {
            CHECK.index("22: wouldShow(" + hand + ")", x, () -> x.wouldShow(hand));
        }
        x.send();
        CHECK.index("22: wouldShow(3) without a key", x, () -> x.wouldShow(3));
    }

    /** What the document's rules lead to is always sound; the runs against the model ask it, too. */
    private static void itIsSound() {
        Putitback x = new Putitback();
        int[] words = {123456, 654321, 1, 9, 111111, 999999, 12, 21, 147, 741, 5, 555};
        for (int word : words) {
            x.give(word, 99);
            CHECK.yes("23: with " + word, x.isSound());
        }
        for (int i = 0; i < 12; i++) {
            Typist.write(x, 5);
        }
        CHECK.yes("23: at the limits", x.isSound());
        x.send();
        for (int i = 0; i < 3; i++) {
            x.tap(8);
            x.choose(0);
            x.putBack();
            CHECK.yes("23: put back", x.isSound());
        }
        x.forget(555);
        CHECK.yes("23: forgotten", x.isSound());
    }

    private static void knockCounts() {
        Putitback x = new Putitback();
        CHECK.same("24: first", x.knock(), 1);
        CHECK.same("24: second", x.knock(), 2);
        CHECK.same("24: counted", x.house(9), 2);
        CHECK.argument("24: other refusals are not", x, () -> x.tap(0));
        CHECK.same("24: counted the same", x.house(9), 2);
        CHECK.same("24: by object", new Putitback().knock(), 1);
    }

    private static void digestOfANewOne() {
        long d = 3391;
        int[] zeros = new int[10];
        int[] ofOneHand = {3, 0, 0, -1};
        for (int v : zeros) {
            d = d * 31 + v;
        }
        for (int hand = 0; hand < 3; hand++) {
            for (int v : ofOneHand) {
                d = d * 31 + v;
            }
        }
        int[] end = {-1, -1, -1, -1, 0, 1};
        for (int v : end) {
            d = d * 31 + v;
        }
        CHECK.same("25: a new one", new Putitback().digest(), d);
    }

    private static long asked(Putitback x) {
        List<Integer> all = new ArrayList<>();
        for (int what = 0; what <= 9; what++) {
            all.add(x.house(what));
        }
        for (int place = 0; place < x.house(0); place++) {
            for (int what = 0; what <= 4; what++) {
                all.add(x.ofBook(place, what));
            }
            for (int other = 0; other < x.house(0); other++) {
                all.add(x.pair(place, other));
            }
        }
        for (int at = 0; at < x.house(2); at++) {
            for (int what = 0; what <= 2; what++) {
                all.add(x.ofText(at, what));
            }
        }
        for (int hand = 0; hand <= 2; hand++) {
            for (int what = 0; what <= 2; what++) {
                all.add(x.ofHand(hand, what));
            }
            all.add(x.wouldShow(hand));
        }
        for (int nth = 0; nth <= 3; nth++) {
            all.add(x.offer(nth));
        }
        all.add(x.text().length());
        all.add(x.isSound() ? 1 : 0);
        long d = 3391;
        for (int v : all) {
            d = d * 31 + v;
        }
        return d;
    }

    private static void digestOfAFullOne() {
        Putitback x = new Putitback();
        x.give(55, 9);
        x.give(1, 3);
        x.pass(2);
        for (int hand = 0; hand < 3; hand++) {
            x.hand(hand);
            Typist.write(x, 56);
            x.putBack();
            Typist.write(x, 1);
        }
        CHECK.same("25: without a key", x.digest(), asked(x));
        x.tap(5);
        x.knock();
        CHECK.same("25: with a key", x.digest(), asked(x));
        CHECK.same("25: the same again", x.digest(), asked(x));
    }

    private static void askingChangesNothing() {
        Putitback x = new Putitback();
        x.give(55, 9);
        x.give(1, 3);
        Typist.write(x, 56);
        x.putBack();
        x.tap(5);
        x.tap(7);
        String before = Check.print(x);
        x.cost(123, 456);
        x.ofBook(1, 4);
        x.pair(1, 1);
        x.ofText(0, 1);
        x.ofHand(0, 2);
        x.putBacks(2, 77);
        x.house(3);
        x.text();
        x.typed();
        x.offer(1);
        x.wouldShow(2);
        x.isSound();
        CHECK.same("asking changes nothing", Check.print(x), before);
        CHECK.same("asking of a word does not count it", x.putBacks(2, 77), 0);
    }

    /** What calls answer after the 512th is free; that they answer is not. */
    private static void lateCallsEnd() {
        Putitback x = new Putitback();
        x.give(5, 1);
        for (int word = 111; word < 888; word++) {
            if (String.valueOf(word).indexOf('0') < 0) {
                Typist.chooseNth(x, word, 0);
                if (x.ofText(0, 0) != x.ofText(0, 1)) {
                    x.putBack();
                }
                x.send();
            }
        }
        CHECK.yes("late calls", x.isSound() || x.digest() != 0);
    }
}
