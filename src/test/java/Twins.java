import java.util.LinkedHashMap;
import java.util.Map;
import java.util.NoSuchElementException;
import java.util.function.Supplier;
import java.util.function.ToLongFunction;

/**
 * Two objects made by the same calls. One of them gets one call more; then all that can be asked is asked of both, act by
 * act is undone on both, and the image is restored: whatever differs was changed by that call.
 */
final class Twins {
    /** What a document's promise allows for an object. */
    private static final int MOST_CALLS = 512;

    private final JuniorPews x;
    private final Map<String, Long> told = new LinkedHashMap<>();
    private int calls = 30;

    private Twins(JuniorPews x) {
        this.x = x;
    }

    /**
     * Pew 0 has 2, pew 1 has 1, pew 2 has 0; 3 sits nowhere and is barred. There are 5 acts, 2 of them since the image,
     * 2 that are seen, 1 of them since the image, 20 bytes on the tape, and one refusal of each kind.
     */
    static JuniorPews lived() {
        JuniorPews x = Tape.chapel("person 20;person 5;person 12;person 8;seats 2;");
        x.asNow();
        x.old(0);
        x.sundays(2);
        x.bar(3, 4);
        x.lie(1, 6);
        x.see(0, 1, 2);
        x.image();
        x.leave(3);
        x.swap(1, 2);
        x.see(1, 20, 0);
        x.sundays(0);
        x.see(0, 0, 12);
        Tape.tell(x, "person 3;?");
        Tape.feed(x, "person 7;person 8;");
        // what was worked out of it must be void wherever it changes
        x.asNow();
        x.old(0);
        return x;
    }

    static void noSuch(Due due, String call, ToLongFunction<JuniorPews> f) {
        JuniorPews x = lived();
        due.noSuch(call, () -> f.applyAsLong(x));
        compare(due, call, x, lived(), Map.of());
    }

    static void illegal(Due due, String call, ToLongFunction<JuniorPews> f) {
        JuniorPews x = lived();
        due.illegal(call, () -> f.applyAsLong(x));
        compare(due, call, x, lived(), Map.of());
    }

    /** A question changes nothing, whatever it answers. */
    static void asks(Due due, String call, ToLongFunction<JuniorPews> f) {
        JuniorPews x = lived();
        f.applyAsLong(x);
        compare(due, call, x, lived(), Map.of());
    }

    /** A refusal answers NONE, counts by its STATUS (12 to 14 of count), and changes nothing else. */
    static void refuses(Due due, String call, int status, ToLongFunction<JuniorPews> f) {
        refuses(due, call, status, Twins::lived, f);
    }

    static void refuses(Due due, String call, int status, Supplier<JuniorPews> make, ToLongFunction<JuniorPews> f) {
        JuniorPews x = make.get();
        due.is(call, f.applyAsLong(x), JuniorPews.NONE);
        compare(due, call, x, make.get(), Map.of("count " + status, 1L));
    }

    /** Asks all of both; by which numbers the first one's answers are to be more is told. */
    static void compare(Due due, String call, JuniorPews touched, JuniorPews left, Map<String, Long> more) {
        Map<String, Long> got = new Twins(touched).tellAll(due);
        Map<String, Long> want = new Twins(left).tellAll(due);
        due.is(call + ", then: how much is told", got.size(), want.size());
        for (Map.Entry<String, Long> one : want.entrySet()) {
            long added = more.getOrDefault(one.getKey().replaceAll(" in .*", ""), 0L);
            due.is(call + ", then: " + one.getKey(), got.getOrDefault(one.getKey(), Long.MIN_VALUE), one.getValue() + added);
        }
    }

    private Map<String, Long> tellAll(Due due) {
        tellMuch("now");
        int left = x.count(9);
        for (int i = 1; i <= left && i <= 5; i++) {
            tell("undo", "undone " + i, () -> (long) x.undo());
            tellState("undone " + i);
        }
        tell("restore", "restored", () -> x.restore() ? 1L : 0L);
        tellMuch("restored");
        due.is("no more calls than an object is used for", calls <= MOST_CALLS, true);
        return told;
    }

    private void tellMuch(String when) {
        tellState(when);
        tell("fault", when, () -> (long) x.fault());
        for (int pew = 0; pew < 3; pew++) {
            int at = pew;
            tell("pew " + pew + " 1", when, () -> (long) x.pew(at, 1));
            tell("pew " + pew + " 2", when, () -> (long) x.pew(at, 2));
            tell("pew " + pew + " 3", when, () -> (long) x.pew(at, 3));
        }
        for (int i = 0; i < 3; i++) {
            int what = i;
            tell("later 1 " + i, when, () -> (long) x.later(1, what));
            tell("order " + i, when, () -> (long) x.order(what));
            tell("old " + i, when, () -> (long) x.old(what));
        }
    }

    private void tellState(String when) {
        for (int i = 0; i <= 14; i++) {
            int what = i;
            tell("count " + i, when, () -> (long) x.count(what));
        }
        int people = x.count(0);
        for (int p = 0; p < people && p < 4; p++) {
            int person = p;
            for (int i = 0; i <= 8; i++) {
                int what = i;
                tell("person " + p + " " + i, when, () -> (long) x.person(person, what));
            }
        }
    }

    private void tell(String call, String when, Supplier<Long> f) {
        calls++;
        long answer;
        try {
            answer = f.get();
        } catch (NoSuchElementException e) {
            answer = -1000;
        }
        told.put(call + " in " + when, answer);
    }
}
