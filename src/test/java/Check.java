import java.util.function.LongSupplier;

/** Counts the answers that are not as due, and prints each of them. */
final class Check {
    private int wrong = 0;
    private int checked = 0;

    void same(String what, long got, long due) {
        checked++;
        if (got != due) {
            tell(what + " answered " + got + ", due is " + due);
        }
    }

    void same(String what, String got, String due) {
        checked++;
        if (!due.equals(got)) {
            tell(what + " answered \"" + got + "\", due is \"" + due + "\"");
        }
    }

    void yes(String what, boolean got) {
        same(what, got ? 1 : 0, 1);
    }

    void no(String what, boolean got) {
        same(what, got ? 1 : 0, 0);
    }

    /** The call throws just that exception, no class below it, and the keyboard is as it was. */
    void refuses(String what, Putitback keyboard, Class<? extends RuntimeException> due, LongSupplier call) {
        checked++;
        String before = print(keyboard);
        try {
            tell(what + " answered " + call.getAsLong() + ", due is " + due.getSimpleName());
        } catch (RuntimeException e) {
            if (e.getClass() != due) {
                tell(what + " threw " + e.getClass().getName() + ", due is " + due.getSimpleName());
            }
        }
        same(what + " leaves the text", print(keyboard), before);
    }

    void index(String what, Putitback keyboard, LongSupplier call) {
        refuses(what, keyboard, IndexOutOfBoundsException.class, call);
    }

    void argument(String what, Putitback keyboard, LongSupplier call) {
        refuses(what, keyboard, IllegalArgumentException.class, call);
    }

    void state(String what, Putitback keyboard, LongSupplier call) {
        refuses(what, keyboard, IllegalStateException.class, call);
    }

    /** All that can be seen of a keyboard but the put backs of single words. */
    static String print(Putitback keyboard) {
        return keyboard.text() + "|" + keyboard.typed() + "|" + keyboard.digest();
    }

    void tell(String fault) {
        wrong++;
        System.out.println(fault);
    }

    int wrong() {
        return wrong;
    }

    void end(String name) {
        System.out.println(name + ": " + checked + " answers checked, " + wrong + " wrong");
        System.exit(wrong == 0 ? 0 : 1);
    }
}
