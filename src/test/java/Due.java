/** Counts answers, prints those that are not due. */
final class Due {
    private static int right = 0;
    private static int wrong = 0;
    private static String under = "";

    private Due() {
    }

    /** What the answers that follow belong to; it is printed before each that is not due. */
    static void head(String words) {
        under = words;
    }

    /** How many answers there were till now. */
    static int asked() {
        return right + wrong;
    }

    static void is(String call, long got, long want) {
        same(call, String.valueOf(got), String.valueOf(want));
    }

    static void holds(String what, boolean so) {
        same(what, String.valueOf(so), "true");
    }

    static void same(String call, String got, String want) {
        if (got.equals(want)) {
            right++;
            return;
        }
        wrong++;
        if (wrong <= 40) {
            System.out.println(under + call + " answered " + got + ", due is " + want);
        }
    }

    /** Last call of a test's main. */
    static void end(String test) {
        System.out.println(test + ": " + right + " answers as due, " + wrong + " not");
        if (wrong != 0 || right == 0) {
            System.exit(1);
        }
    }

    static int four(byte[] bytes, int from) {
        int sum = 0;
        for (int k = from; k < from + 4; k++) {
            sum = sum << 8 | (k < bytes.length ? bytes[k] & 255 : ' ');
        }
        return sum;
    }

    /** Puts a text on the tape, blanks behind it; how many bytes the tape has. */
    static int put(SecretForces x, String text) {
        byte[] bytes = text.getBytes(java.nio.charset.StandardCharsets.ISO_8859_1);
        int has = x.count(12);
        for (int k = 0; k < bytes.length; k += 20) {
            has = x.feed(four(bytes, k), four(bytes, k + 4), four(bytes, k + 8), four(bytes, k + 12), four(bytes, k + 16));
        }
        return has;
    }

    static int tell(SecretForces x, String text) {
        put(x, text);
        return x.text(text.length());
    }
}
