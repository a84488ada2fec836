import java.util.ArrayList;
import java.util.List;
import java.util.Random;
import java.util.function.Supplier;

/** Runs of 512 calls, the same each time (the seeds are written here), against the Model. */
public final class ModelRunsTest {
    private static final int RUNS = 400;
    private static final int CALLS = 512;
    private static final int[] ODD = {0, -1, 10, 101, 1000000, Integer.MIN_VALUE, Integer.MAX_VALUE, 3, 12, 60, 61, 99, 100};

    private final Check check;
    private final Random random;
    private final Putitback keyboard = new Putitback();
    private final Model model = new Model();
    private final List<String> calls = new ArrayList<>();
    private final int keys;
    private final int oddness;
    private final int longestPass;
    private final int[] words = new int[14];

    private ModelRunsTest(Check check, int seed) {
        this.check = check;
        this.random = new Random(seed);
        this.keys = 2 + random.nextInt(8);
        this.oddness = 3 + random.nextInt(40);
        this.longestPass = new int[] {60, 3, 31}[random.nextInt(3)];
        for (int i = 0; i < words.length; i++) {
            words[i] = newWord();
        }
    }

    private int newWord() {
        int word = 0;
        int length = 1 + random.nextInt(random.nextInt(4) == 0 ? 6 : 3);
        for (int i = 0; i < length; i++) {
            word = word * 10 + 1 + random.nextInt(keys);
        }
        return word;
    }

    private static String answer(Supplier<Object> call) {
        try {
            return String.valueOf(call.get());
        } catch (RuntimeException e) {
            return "throws." + e.getClass().getSimpleName();
        }
    }

    private void both(String call, Supplier<Object> ours, Supplier<Object> due) {
        if (check.wrong() > 0 || calls.size() >= CALLS) {
            return;
        }
        calls.add(call);
        check.same(String.join(" ", calls), answer(ours), answer(due));
    }

    private int odd() {
        return ODD[random.nextInt(ODD.length)];
    }

    private int below(int bound) {
        return random.nextInt(oddness) == 0 ? odd() : random.nextInt(bound);
    }

    private int word() {
        return random.nextInt(oddness) == 0 ? odd() : words[random.nextInt(words.length)];
    }

    private void type() {
        int word = words[random.nextInt(words.length)];
        for (char c : String.valueOf(word).toCharArray()) {
            tap(random.nextInt(8) == 0 ? 1 + random.nextInt(9) : c - '0');
        }
    }

    private void tap(int key) {
        both("tap(" + key + ")", () -> keyboard.tap(key), () -> model.tap(key));
    }

    private void end() {
        int nth = below(4);
        if (random.nextInt(4) == 0) {
            both("choose(" + nth + ")", () -> keyboard.choose(nth), () -> model.choose(nth));
        } else {
            both("blank()", keyboard::blank, model::blank);
        }
    }

    private void change() {
        int hand = below(3);
        int days = 1 + below(longestPass);
        int word = word();
        int count = random.nextInt(3) == 0 ? 92 + below(9) : 1 + below(10);
        switch (random.nextInt(24)) {
            case 0 -> both("hand(" + hand + ")", () -> keyboard.hand(hand), () -> model.hand(hand));
            case 1 -> both("pass(" + days + ")", () -> keyboard.pass(days), () -> model.pass(days));
            case 2 -> both("forget(" + word + ")", () -> keyboard.forget(word), () -> model.forget(word));
            case 3, 4, 5 -> both("give(" + word + ", " + count + ")",
                    () -> keyboard.give(word, count), () -> model.give(word, count));
            case 6 -> both("send()", keyboard::send, model::send);
            case 7, 8 -> both("erase()", keyboard::erase, model::erase);
            case 9, 10, 11, 12 -> both("putBack()", keyboard::putBack, model::putBack);
            case 13 -> both("knock()", keyboard::knock, model::knock);
            case 14 -> tap(below(10));
            case 15 -> forgetTheFirst();
            default -> {
                type();
                end();
                both("putBack()", keyboard::putBack, model::putBack);
            }
        }
    }

    /** So that learnt words come to the first places, too. */
    private void forgetTheFirst() {
        if (model.house(0) > 0) {
            int first = model.ofBook(0, 0);
            both("forget(" + first + ")", () -> keyboard.forget(first), () -> model.forget(first));
        }
    }

    private void ask() {
        int place = below(12);
        int other = below(12);
        int hand = below(3);
        int what = below(5);
        int one = word();
        int two = word();
        switch (random.nextInt(13)) {
            case 0 -> both("cost(" + one + ", " + two + ")", () -> keyboard.cost(one, two), () -> model.cost(one, two));
            case 1 -> both("ofBook(" + place + ", " + what + ")",
                    () -> keyboard.ofBook(place, what), () -> model.ofBook(place, what));
            case 2 -> both("pair(" + place + ", " + other + ")",
                    () -> keyboard.pair(place, other), () -> model.pair(place, other));
            case 3 -> both("ofText(" + place + ", " + what + ")",
                    () -> keyboard.ofText(place, what), () -> model.ofText(place, what));
            case 4 -> both("ofHand(" + hand + ", " + what + ")",
                    () -> keyboard.ofHand(hand, what), () -> model.ofHand(hand, what));
            case 5 -> both("putBacks(" + hand + ", " + one + ")",
                    () -> keyboard.putBacks(hand, one), () -> model.putBacks(hand, one));
            case 6 -> both("house(" + place + ")", () -> keyboard.house(place), () -> model.house(place));
            case 7 -> both("text()", keyboard::text, model::text);
            case 8 -> both("typed()", keyboard::typed, model::typed);
            case 9 -> both("offer(" + place + ")", () -> keyboard.offer(place), () -> model.offer(place));
            case 10 -> both("wouldShow(" + hand + ")", () -> keyboard.wouldShow(hand), () -> model.wouldShow(hand));
            case 11 -> both("isSound()", keyboard::isSound, model::isSound);
            default -> both("digest()", keyboard::digest, model::digest);
        }
    }

    private void run() {
        while (calls.size() < CALLS - 1 && check.wrong() == 0) {
            change();
            if (random.nextInt(3) == 0) {
                ask();
            }
            both("digest()", keyboard::digest, model::digest);
        }
        both("digest()", keyboard::digest, model::digest);
    }

    public static void main(String[] args) {
        Check check = new Check();
        for (int seed = 0; seed < RUNS && check.wrong() == 0; seed++) {
            new ModelRunsTest(check, seed).run();
        }
        check.end("ModelRunsTest");
    }
}
