/** What the tests do with a keyboard over and over. */
final class Typist {
    private Typist() {
    }

    static void taps(Putitback x, int word) {
        for (char key : String.valueOf(word).toCharArray()) {
            x.tap(key - '0');
        }
    }

    /** Types the word with the hand that types, and ends it by a blank. */
    static int write(Putitback x, int word) {
        taps(x, word);
        return x.blank();
    }

    static int chooseNth(Putitback x, int word, int nth) {
        taps(x, word);
        return x.choose(nth);
    }

    /** Types the word and chooses the other one, wherever it stands among the offers. */
    static int pick(Putitback x, int word, int shown) {
        taps(x, word);
        for (int nth = 0; nth < 12; nth++) {
            if (x.offer(nth) == shown) {
                return x.choose(nth);
            }
        }
        throw new IllegalStateException(shown + " is no offer for " + word);
    }

    /** That hand puts the word back so often, each time in a text of its own. */
    static void mend(Putitback x, int hand, int word, int shown, int times) {
        int before = x.hand(hand);
        for (int i = 0; i < times; i++) {
            pick(x, word, shown);
            x.putBack();
            x.send();
        }
        x.hand(before);
    }

    /** The word is learnt by a put back of each hand; trust of each is 1 less by that. */
    static void learn(Putitback x, int word, int shown) {
        for (int hand = 0; hand < 3; hand++) {
            mend(x, hand, word, shown, 1);
        }
    }

    static void giveAll(Putitback x, int... words) {
        for (int word : words) {
            x.give(word, 1);
        }
    }

    /** From the day 0 to that one. */
    static void passTo(Putitback x, int day) {
        int left = day;
        while (left > 0) {
            int days = Math.min(60, left);
            x.pass(days);
            left -= days;
        }
    }
}
