/** What the tests share about texts. */
final class Texts {
    static final String FIRST = "[1s2.l3(4e)2s1e^3s3.l4][1l5(2l2(7.))]";

    private Texts() {
    }

    static void write(ToldInKnots knots, String text) {
        knots.wipe();
        for (int i = 0; i < text.length(); i++) {
            knots.write(text.charAt(i));
        }
    }

    /** A new object on which the text is laid. */
    static ToldInKnots laid(String text) {
        ToldInKnots knots = new ToldInKnots();
        write(knots, text);
        int cords = knots.lay();
        if (cords < 1) {
            throw new IllegalStateException("the test's own text was not laid: " + text + " answered " + cords);
        }
        return knots;
    }

    static int fault(String text) {
        ToldInKnots knots = new ToldInKnots();
        write(knots, text);
        return knots.fault();
    }

    static String repeated(String part, int times) {
        return part.repeat(times);
    }
}
