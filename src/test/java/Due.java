import java.util.NoSuchElementException;
import java.util.function.LongSupplier;

/** Counts and prints the answers of one test that are not the ones due. */
final class Due {
    private int wrong = 0;
    private String heading = "";

    /** What is printed from here on stands under this name. */
    void begin(String name) {
        heading = name + ": ";
    }

    void is(String call, long got, long want) {
        if (got != want) {
            tellWrong(call + " answered " + got + ", due is " + want);
        }
    }

    void is(String call, boolean got, boolean want) {
        is(call, got ? 1 : 0, want ? 1 : 0);
    }

    /** All answers of a call by its last argument, 0 on. */
    void are(String call, java.util.function.IntToLongFunction got, long... want) {
        for (int i = 0; i < want.length; i++) {
            is(call + " " + i, got.applyAsLong(i), want[i]);
        }
    }

    void noSuch(String call, LongSupplier got) {
        throwsOf(call, got, NoSuchElementException.class);
    }

    void illegal(String call, LongSupplier got) {
        throwsOf(call, got, IllegalArgumentException.class);
    }

    private void throwsOf(String call, LongSupplier got, Class<?> due) {
        String answer;
        try {
            answer = "answered " + got.getAsLong();
        } catch (RuntimeException e) {
            if (e.getClass() == due) {
                return;
            }
            answer = "threw " + e;
        }
        tellWrong(call + " " + answer + ", due is " + due.getSimpleName());
    }

    void tellWrong(String what) {
        wrong++;
        System.out.println(heading + what);
    }

    void end(String name) {
        System.out.println(name + (wrong == 0 ? ": all answers are as due" : ": " + wrong + " answers are not as due"));
        if (wrong != 0) {
            System.exit(1);
        }
    }
}
