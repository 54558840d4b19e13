/** What the tests share: telling texts and bytes to the tape, and counting answers that are not due. */
final class Check {
    private static int asked = 0;
    private static int wrong = 0;

    private Check() {
    }

    static void due(String call, long got, long want) {
        asked++;
        if (got != want) {
            wrong++;
            System.out.println(call + " answered " + got + ", due is " + want);
        }
    }

    static void due(String call, boolean got, boolean want) {
        due(call, got ? 1L : 0L, want ? 1L : 0L);
    }

    static void close() {
        System.out.println(asked + " answers, " + wrong + " wrong");
        if (wrong != 0) {
            System.exit(1);
        }
    }

    static void bytes(TyreWorks x, int... bytes) {
        x.end(0);
        for (int from = 0; from < bytes.length; from += 20) {
            int[] five = new int[5];
            for (int i = 0; i < 20; i++) {
                int value = from + i < bytes.length ? bytes[from + i] & 255 : 0;
                five[i / 4] |= value << (24 - 8 * (i % 4));
            }
            x.feed(five[0], five[1], five[2], five[3], five[4]);
        }
        x.end(bytes.length);
    }

    static void text(TyreWorks x, String text) {
        int[] bytes = new int[text.length()];
        for (int i = 0; i < bytes.length; i++) {
            bytes[i] = text.charAt(i);
        }
        bytes(x, bytes);
    }

    static int works(TyreWorks x, String text) {
        text(x, text);
        return x.works();
    }

    /** A new object with a text that must be without a fault. */
    static TyreWorks told(String text) {
        TyreWorks x = new TyreWorks();
        int statements = works(x, text);
        int semicolons = 0;
        for (int i = 0; i < text.length(); i++) {
            semicolons += text.charAt(i) == ';' ? 1 : 0;
        }
        due("works of " + text, statements, semicolons);
        return x;
    }
}
