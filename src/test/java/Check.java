import java.util.function.LongSupplier;
import java.util.function.Supplier;
import java.util.function.ToLongFunction;

/** Counts the answers that are not as due, and prints each of them. */
final class Check {
    /** Words of the scenes, and some that are in none: their put backs are looked at, too. */
    private static final int[] WORDS = {1, 5, 9, 12, 54, 55, 56, 58, 59, 333, 123456, 999999};

    private int wrong = 0;
    private int checked = 0;

    void same(String what, long got, long due) {
        checked++;
        if (got != due) {
            tell(what + " answered " + got + ", due is " + due);
        }
    }

    void same(String what, String got, String due) {
        checked++;
        if (!due.equals(got)) {
            tell(what + " answered \"" + got + "\", due is \"" + due + "\"");
        }
    }

    void yes(String what, boolean got) {
        same(what, got ? 1 : 0, 1);
    }

    void no(String what, boolean got) {
        same(what, got ? 1 : 0, 0);
    }

    /** The call throws just that exception, no class below it, and the keyboard is as it was. */
    void refuses(String what, Putitback keyboard, Class<? extends RuntimeException> due, LongSupplier call) {
        String before = print(keyboard);
        same(what, answer(call), "throws." + due.getSimpleName());
        same(what + " leaves all", print(keyboard), before);
    }

    void index(String what, Putitback keyboard, LongSupplier call) {
        refuses(what, keyboard, IndexOutOfBoundsException.class, call);
    }

    void argument(String what, Putitback keyboard, LongSupplier call) {
        refuses(what, keyboard, IllegalArgumentException.class, call);
    }

    void state(String what, Putitback keyboard, LongSupplier call) {
        refuses(what, keyboard, IllegalStateException.class, call);
    }

    /**
     * The call answers so (or throws.IllegalStateException and the like), and after it the keyboard
     * shows all that one shows that was not called, and goes on as that one does.
     */
    void leaves(String what, Supplier<Putitback> scene, String due, ToLongFunction<Putitback> call) {
        Putitback called = scene.get();
        same(what, answer(() -> call.applyAsLong(called)), due);
        Putitback other = scene.get();
        same(what + " leaves all", all(called), all(other));
        same(what + ", and what comes then,", goesOn(called), goesOn(other));
    }

    static String answer(LongSupplier call) {
        try {
            return String.valueOf(call.getAsLong());
        } catch (RuntimeException e) {
            return "throws." + e.getClass().getSimpleName();
        }
    }

    /** All that can be seen of a keyboard but the put backs of single words, in three calls. */
    static String print(Putitback keyboard) {
        return keyboard.text() + "|" + keyboard.typed() + "|" + keyboard.digest();
    }

    private static String all(Putitback keyboard) {
        StringBuilder all = new StringBuilder(print(keyboard));
        for (int hand = 0; hand < 3; hand++) {
            for (int word : WORDS) {
                all.append(' ').append(keyboard.putBacks(hand, word));
            }
        }
        for (int nth = 0; nth <= 12; nth++) {
            all.append(' ').append(keyboard.offer(nth));
        }
        return all.toString();
    }

    private static String goesOn(Putitback x) {
        LongSupplier[] calls = {
            () -> x.tap(5), x::blank, x::putBack, x::putBack, x::erase, x::erase, () -> x.choose(0),
            () -> x.hand(2), () -> x.pass(1), () -> x.give(777, 3), () -> x.forget(55) ? 1 : 0, x::knock,
            x::digest, x::send, () -> x.tap(7), x::blank, x::digest};
        StringBuilder all = new StringBuilder();
        for (LongSupplier call : calls) {
            all.append(' ').append(answer(call));
        }
        return all.toString();
    }

    void tell(String fault) {
        wrong++;
        System.out.println(fault);
    }

    int wrong() {
        return wrong;
    }

    void end(String name) {
        System.out.println(name + ": " + checked + " answers checked, " + wrong + " wrong");
        System.exit(wrong == 0 ? 0 : 1);
    }
}
