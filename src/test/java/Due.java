/** What all tests use: counts the answers that are not as due, and feeds texts and bytes. */
final class Due {
    private static int wrong = 0;
    private static int asked = 0;
    private static String about = "";

    private Due() {
    }

    /** What the answers from here on are told to be about, if they are wrong. */
    static void about(String words) {
        about = words + ": ";
    }

    static void is(String call, long got, long want) {
        asked++;
        if (got != want) {
            wrong++;
            System.out.println(about + call + " answered " + got + ", due is " + want);
        }
    }

    static void is(String call, boolean got, boolean want) {
        is(call, got ? 1 : 0, want ? 1 : 0);
    }

    /** A text comes behind the tape, with bytes 0 behind it till they are twenty. */
    static void feed(AskedValley v, String text) {
        int[] bytes = new int[text.length()];
        for (int i = 0; i < bytes.length; i++) {
            bytes[i] = text.charAt(i);
        }
        feed(v, bytes);
    }

    static void feed(AskedValley v, int... bytes) {
        for (int from = 0; from < bytes.length; from += 20) {
            int[] five = new int[5];
            for (int i = 0; i < 20; i++) {
                int each = from + i < bytes.length ? bytes[from + i] : 0;
                five[i / 4] |= (each & 255) << 24 - 8 * (i % 4);
            }
            v.feed(five[0], five[1], five[2], five[3], five[4]);
        }
    }

    static int law(AskedValley v, String text) {
        feed(v, text);
        return v.law(text.length());
    }

    static int valley(AskedValley v, String text) {
        feed(v, text);
        return v.valley(text.length());
    }

    static int census(AskedValley v, String text) {
        feed(v, text);
        return v.census(text.length());
    }

    static int look(AskedValley v, String text, int what) {
        feed(v, text);
        return v.look(text.length(), what);
    }

    static int forms(AskedValley v, String letters, int what) {
        int[] bytes = new int[letters.length()];
        for (int i = 0; i < bytes.length; i++) {
            bytes[i] = letters.charAt(i) - 'a';
        }
        feed(v, bytes);
        return v.forms(bytes.length, what);
    }

    static AskedValley of(String valley) {
        AskedValley v = new AskedValley();
        is("valley " + valley, valley(v, valley) > 0, true);
        return v;
    }

    /** All that count tells, to see that nothing has changed. */
    static String all(AskedValley v) {
        StringBuilder text = new StringBuilder();
        for (int what = 0; what <= 10; what++) {
            text.append(v.count(what)).append(' ');
        }
        return text.toString();
    }

    static void same(String call, String before, String after) {
        asked++;
        if (!before.equals(after)) {
            wrong++;
            System.out.println(about + call + " left " + after + ", due is " + before);
        }
    }

    static void end() {
        System.out.println(asked + " answers, " + wrong + " not as due");
        if (wrong != 0) {
            System.exit(1);
        }
    }
}
