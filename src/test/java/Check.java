/** Counts the answers that are not due; a test ends with end(). */
final class Check {
    private static int wrong = 0;
    private static int asked = 0;

    private Check() {
    }

    static void due(String call, long got, long want) {
        asked++;
        if (got != want) {
            wrong++;
            System.out.println(call + " answered " + got + ", due is " + want);
        }
    }

    static int asked() {
        return asked;
    }

    static void end() {
        System.out.println(asked + " answers, " + wrong + " not as due");
        if (wrong != 0 || asked == 0) {
            System.exit(1);
        }
    }

    /** Writes a text behind THE TEXT, eight bytes a call at most. */
    static int write(EachSeesOne x, String text) {
        int length = x.count(4);
        for (int from = 0; from < text.length(); from += 8) {
            int n = Math.min(8, text.length() - from);
            long v = 0;
            for (int i = 0; i < n; i++) {
                v = v << 8 | text.charAt(from + i) & 255;
            }
            length = x.write(n, v);
        }
        return length;
    }

    /** A new object with this text laid. */
    static EachSeesOne laid(String text) {
        EachSeesOne x = new EachSeesOne();
        write(x, text);
        if (x.lay() < 0) {
            due("lay of " + text, -2, 0);
        }
        return x;
    }
}
