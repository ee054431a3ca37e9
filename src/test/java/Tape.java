/** Feeds a text to an object as numbers, and tells it as a chapel. */
final class Tape {
    private Tape() {
    }

    /** Five numbers of four bytes each from a place of the text on, blanks behind it. */
    static int[] numbers(String text, int from) {
        int[] numbers = new int[5];
        for (int i = 0; i < 20; i++) {
            int sign = from + i < text.length() ? text.charAt(from + i) : ' ';
            numbers[i / 4] = numbers[i / 4] << 8 | sign & 255;
        }
        return numbers;
    }

    static void feed(JuniorPews x, String text) {
        for (int from = 0; from < text.length(); from += 20) {
            int[] n = numbers(text, from);
            x.feed(n[0], n[1], n[2], n[3], n[4]);
        }
    }

    static int tell(JuniorPews x, String text) {
        feed(x, text);
        return x.chapel(text.length());
    }

    static JuniorPews chapel(String text) {
        JuniorPews x = new JuniorPews();
        if (tell(x, text) != 0) {
            throw new IllegalStateException("the test's own text has a fault at " + x.fault() + ": " + text);
        }
        return x;
    }
}
