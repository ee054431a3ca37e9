import java.lang.reflect.Method;
import java.util.TreeMap;

/** Each of the 45 promises has boundary cases of its own, and so have the terms. */
public final class BoundsCoverTest {
    private static final Class<?>[] TESTS = {BoundsOfTextTest.class, BoundsOfNowTest.class, BoundsOfActsTest.class,
        BoundsOfLaterTest.class, BoundsOfGuessTest.class};

    public static void main(String[] args) {
        Due due = new Due();
        TreeMap<String, Integer> cases = new TreeMap<>();
        for (Class<?> test : TESTS) {
            for (Method method : Cases.of(test)) {
                cases.merge(method.getName().replaceAll("_.*", ""), 1, Integer::sum);
            }
        }
        for (int promise = 1; promise <= 45; promise++) {
            String name = "p" + promise / 10 + promise % 10;
            due.is(name + " has cases", cases.getOrDefault(name, 0) > 0, true);
        }
        due.is("promises and terms", cases.size(), 46);
        due.end("BoundsCoverTest " + cases);
    }
}
