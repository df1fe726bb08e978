/** Counts answers that are not the ones due, and ends a test with exit code 1 if there was one. */
final class Check {
    private int asked;
    private int wrong;

    void due(String what, long got, long want) {
        asked++;
        if (got == want) return;
        wrong++;
        System.out.println(what + " answered " + got + ", due is " + want);
    }

    boolean allRight() {
        return wrong == 0;
    }

    void finish(String name) {
        System.out.println(name + ": " + asked + " answers, " + wrong + " wrong");
        if (wrong != 0) System.exit(1);
    }

    /** Feeds a text, eight bytes a call at most. */
    static void feedText(HouseKeepers x, String text) {
        for (int at = 0; at < text.length(); at += 8) {
            int n = Math.min(8, text.length() - at);
            x.feed(n, packed(text, at, n));
        }
    }

    static long packed(String text, int at, int n) {
        long bytes = 0;
        for (int i = n - 1; i >= 0; i--) bytes = bytes << 8 | text.charAt(at + i) & 255;
        return bytes;
    }
}
