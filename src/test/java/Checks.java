import java.util.NoSuchElementException;
import java.util.function.IntSupplier;

/** What all tests share: comparing answers, and telling a TurnBrothers its text. */
final class Checks {
    /** A call whose answer does not matter. */
    interface Call {
        void make();
    }

    static final int NO_SUCH = Integer.MIN_VALUE + 7;
    static final int ILLEGAL = Integer.MIN_VALUE + 8;
    private static final int STATE = 19 + 1 + 7 * 11 + 2 * 12 + 7 + 3;

    private static int good = 0;
    private static int bad = 0;

    private Checks() {
    }

    static void same(String what, long due, long got) {
        if (due == got) {
            good++;
        } else {
            bad++;
            System.out.println(what + " answered " + got + ", due is " + due);
        }
    }

    static void same(String what, boolean due, boolean got) {
        same(what, due ? 1 : 0, got ? 1 : 0);
    }

    static void noSuch(String what, Call call) {
        same(what + " (exception)", NO_SUCH, outcome(() -> {
            call.make();
            return 0;
        }));
    }

    static void illegal(String what, Call call) {
        same(what + " (exception)", ILLEGAL, outcome(() -> {
            call.make();
            return 0;
        }));
    }

    /** The answer of a call, or a number for the exception that it throws. */
    static int outcome(IntSupplier call) {
        try {
            return call.getAsInt();
        } catch (NoSuchElementException e) {
            return e.getClass() == NoSuchElementException.class ? NO_SUCH : other(e);
        } catch (IllegalArgumentException e) {
            return e.getClass() == IllegalArgumentException.class ? ILLEGAL : other(e);
        } catch (RuntimeException | StackOverflowError e) {
            return other(e);
        }
    }

    private static int other(Throwable thrown) {
        bad++;
        System.out.println("thrown: " + thrown);
        return Integer.MIN_VALUE + 9;
    }

    /** Feeds a text, with blanks behind it up to twenty bytes, and lands its own length. */
    static int land(TurnBrothers x, String text) {
        feed(x, text);
        return x.land(text.length());
    }

    static void feed(TurnBrothers x, String text) {
        StringBuilder padded = new StringBuilder(text);
        while (padded.length() % 20 != 0) {
            padded.append(' ');
        }
        for (int at = 0; at < padded.length(); at += 20) {
            x.feed(four(padded, at), four(padded, at + 4), four(padded, at + 8),
                    four(padded, at + 12), four(padded, at + 16));
        }
    }

    private static int four(CharSequence text, int at) {
        int number = 0;
        for (int i = 0; i < 4; i++) {
            number = number << 8 | text.charAt(at + i) & 255;
        }
        return number;
    }

    static TurnBrothers landed(String text) {
        TurnBrothers x = new TurnBrothers();
        same("land of " + text, 0, land(x, text));
        return x;
    }

    /** What can be seen of an object, its counts first, then fault(); looking changes nothing. */
    static int[] state(TurnBrothers x) {
        int[] state = new int[STATE];
        int at = 0;
        for (int what = 0; what < 19; what++) {
            state[at++] = x.count(what);
        }
        state[at++] = x.fault();
        for (int i = 0; i < 7; i++) {
            for (int what = 0; what < 5; what++) {
                int one = i;
                int asked = what;
                state[at++] = outcome(() -> x.deed(one, asked));
                state[at++] = outcome(() -> x.friend(one, asked));
            }
            int gate = i;
            state[at++] = outcome(() -> x.guarded(gate));
        }
        for (int brother = 0; brother < 2; brother++) {
            for (int what = 0; what < 6; what++) {
                int one = brother;
                int asked = what;
                state[at++] = x.brother(one, asked);
                state[at++] = outcome(() -> x.way(one, asked));
            }
        }
        for (int what = 0; what < 7; what++) {
            state[at++] = x.then(31, what);
        }
        state[at++] = x.another(0);
        state[at++] = x.another(1);
        state[at++] = x.next(1);
        return state;
    }

    /** That all is as it was, but what stands in changes: a place of the state, what is there now, and so on. */
    static void stayed(String what, int[] before, TurnBrothers x, int... changes) {
        int[] due = before.clone();
        for (int i = 0; i + 1 < changes.length; i += 2) {
            due[changes[i]] = changes[i + 1];
        }
        int[] now = state(x);
        for (int i = 0; i < now.length; i++) {
            if (due[i] != now[i]) {
                same(what + ": place " + i + " of what there is", due[i], now[i]);
                return;
            }
        }
        same(what, true, true);
    }

    /** A call that throws NoSuchElementException and changes nothing. */
    static void noSuchAt(TurnBrothers x, String what, Call call) {
        int[] before = state(x);
        noSuch(what, call);
        stayed("behind " + what, before, x);
    }

    /** A call that throws IllegalArgumentException and changes nothing. */
    static void illegalAt(TurnBrothers x, String what, Call call) {
        int[] before = state(x);
        illegal(what, call);
        stayed("behind " + what, before, x);
    }

    /** A call that is refused: NONE, one more in a STATUS, and nothing else is other than it was. */
    static void refused(TurnBrothers x, int status, String what, IntSupplier call) {
        int[] before = state(x);
        same(what, TurnBrothers.NONE, outcome(call));
        stayed("behind " + what, before, x, 16 + status, before[16 + status] + 1);
    }

    /** A TEXT with a FAULT: only STATUS 0, the tape and the FAULT's place are other than they were. */
    static void fault(TurnBrothers x, String text, int fault, int place) {
        int[] before = state(x);
        same("land of " + text, fault, land(x, text));
        stayed("behind the fault of " + text, before, x, 15, 0, 16, before[16] + 1, 19, place);
    }

    static void finish() {
        System.out.println(good + " answers as due, " + bad + " not");
        if (bad != 0 || good == 0) {
            System.exit(1);
        }
    }
}
