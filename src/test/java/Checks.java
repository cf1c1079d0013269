import java.util.NoSuchElementException;
import java.util.function.IntSupplier;

/** What all tests share: comparing answers, and telling a TurnBrothers its text. */
final class Checks {
    /** A call whose answer does not matter. */
    interface Call {
        void make();
    }

    static final int NO_SUCH = Integer.MIN_VALUE + 7;
    static final int ILLEGAL = Integer.MIN_VALUE + 8;

    private static int good = 0;
    private static int bad = 0;

    private Checks() {
    }

    static void same(String what, long due, long got) {
        if (due == got) {
            good++;
        } else {
            bad++;
            System.out.println(what + " answered " + got + ", due is " + due);
        }
    }

    static void same(String what, boolean due, boolean got) {
        same(what, due ? 1 : 0, got ? 1 : 0);
    }

    static void noSuch(String what, Call call) {
        same(what + " (exception)", NO_SUCH, outcome(() -> {
            call.make();
            return 0;
        }));
    }

    static void illegal(String what, Call call) {
        same(what + " (exception)", ILLEGAL, outcome(() -> {
            call.make();
            return 0;
        }));
    }

    /** The answer of a call, or a number for the exception that it throws. */
    static int outcome(IntSupplier call) {
        try {
            return call.getAsInt();
        } catch (NoSuchElementException e) {
            return e.getClass() == NoSuchElementException.class ? NO_SUCH : other(e);
        } catch (IllegalArgumentException e) {
            return e.getClass() == IllegalArgumentException.class ? ILLEGAL : other(e);
        } catch (RuntimeException | StackOverflowError e) {
            return other(e);
        }
    }

    private static int other(Throwable thrown) {
        bad++;
        System.out.println("thrown: " + thrown);
        return Integer.MIN_VALUE + 9;
    }

    /** Feeds a text, with blanks behind it up to twenty bytes, and lands its own length. */
    static int land(TurnBrothers x, String text) {
        feed(x, text);
        return x.land(text.length());
    }

    static void feed(TurnBrothers x, String text) {
        StringBuilder padded = new StringBuilder(text);
        while (padded.length() % 20 != 0) {
            padded.append(' ');
        }
        for (int at = 0; at < padded.length(); at += 20) {
            x.feed(four(padded, at), four(padded, at + 4), four(padded, at + 8),
                    four(padded, at + 12), four(padded, at + 16));
        }
    }

    private static int four(CharSequence text, int at) {
        int number = 0;
        for (int i = 0; i < 4; i++) {
            number = number << 8 | text.charAt(at + i) & 255;
        }
        return number;
    }

    static TurnBrothers landed(String text) {
        TurnBrothers x = new TurnBrothers();
        same("land of " + text, 0, land(x, text));
        return x;
    }

    static void finish() {
        System.out.println(good + " answers as due, " + bad + " not");
        if (bad != 0 || good == 0) {
            System.exit(1);
        }
    }
}
