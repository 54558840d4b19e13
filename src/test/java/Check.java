import java.io.IOException;
import java.nio.file.Files;
import java.nio.file.Path;
import java.util.function.IntUnaryOperator;
import java.util.function.Supplier;

/** What the tests share: telling texts and bytes to the tape, and counting answers that are not due. */
final class Check {
    private static final Path DOCUMENT = Path.of("../shared/DOC.md");
    private static int asked = 0;
    private static int wrong = 0;
    private static String sentence = "";
    private static String document = "";

    private Check() {
    }

    static void due(String call, long got, long want) {
        asked++;
        if (got != want) {
            wrong++;
            System.out.println(sentence + call + " answered " + got + ", due is " + want);
        }
    }

    /** The sentence of the document that the answers behind this one are due by; it must stand there so. */
    static void says(String words) {
        sentence = "";
        due("the document says '" + words + "'", document().isEmpty() || document().contains(words), true);
        sentence = "'" + words + "': ";
    }

    private static String document() {
        if (document.isEmpty() && Files.exists(DOCUMENT)) {
            try {
                document = Files.readString(DOCUMENT);
            } catch (IOException unread) {
                System.out.println("unread: " + unread);
            }
        }
        return document;
    }

    static void due(String call, boolean got, boolean want) {
        due(call, got ? 1L : 0L, want ? 1L : 0L);
    }

    static void close() {
        System.out.println(asked + " answers, " + wrong + " wrong");
        if (wrong != 0) {
            System.exit(1);
        }
    }

    static void bytes(TyreWorks x, int... bytes) {
        x.end(0);
        for (int from = 0; from < bytes.length; from += 20) {
            int[] five = new int[5];
            for (int i = 0; i < 20; i++) {
                int value = from + i < bytes.length ? bytes[from + i] & 255 : 0;
                five[i / 4] |= value << (24 - 8 * (i % 4));
            }
            x.feed(five[0], five[1], five[2], five[3], five[4]);
        }
        x.end(bytes.length);
    }

    static void text(TyreWorks x, String text) {
        int[] bytes = new int[text.length()];
        for (int i = 0; i < bytes.length; i++) {
            bytes[i] = text.charAt(i);
        }
        bytes(x, bytes);
    }

    static int works(TyreWorks x, String text) {
        text(x, text);
        return x.works();
    }

    /** A new object with a text that must be without a fault. */
    static TyreWorks told(String text) {
        TyreWorks x = new TyreWorks();
        int statements = works(x, text);
        int semicolons = 0;
        for (int i = 0; i < text.length(); i++) {
            semicolons += text.charAt(i) == ';' ? 1 : 0;
        }
        due("works of " + text, statements, semicolons);
        return x;
    }

    /** Works with 120 parts 0 of a batch of mix 0, in hour 0. */
    static TyreWorks stocked(String text) {
        TyreWorks x = told(text);
        x.mix(0, 999);
        x.cut(0, 0, 60);
        x.cut(0, 0, 60);
        return x;
    }

    /** Works with parts as wide as told. */
    static TyreWorks widths(String sheet, int... widths) {
        StringBuilder text = new StringBuilder("mix m ripe 0 stale 9;");
        for (int i = 0; i < widths.length; i++) {
            text.append("part p").append((char) ('a' + i)).append(" of m takes 1 wide ").append(widths[i]).append(";");
        }
        return told(text + sheet);
    }

    static void hoursTo(TyreWorks x, int hour) {
        for (int n = 0; n < 12 && x.has(7) < hour; n++) {
            x.hours(Math.min(999, hour - x.has(7)));
        }
        due("HOUR", x.has(7), hour);
    }

    /** What is asked with numbers that there are none of is NONE. */
    static void noneSuch(String call, int count, IntUnaryOperator asked) {
        for (int which : new int[] {-1, -2, count, count + 1, 32, 64, 256, 1 << 16, Integer.MIN_VALUE, Integer.MAX_VALUE}) {
            if (which < 0 || which >= count) {
                due(call + " of " + which, asked.applyAsInt(which), TyreWorks.NONE);
            }
        }
    }

    /** A text with ^ ahead of the place where its fault is due; the rest of it is told. */
    static void fault(int which, String marked) {
        int place = marked.indexOf('^');
        TyreWorks x = new TyreWorks();
        due("works of " + marked, works(x, marked.substring(0, place) + marked.substring(place + 1)), TyreWorks.NONE);
        due("fault of " + marked, x.fault(0), which);
        due("place of " + marked, x.fault(1), place);
        due("refusals of " + marked, x.status(1), 1);
    }

    /**
     * All that can be asked, but for the refusals and the tape. These are more calls than the 512 that the document promises;
     * the class has no such limit, and so the tests ask on.
     */
    static String state(TyreWorks x) {
        StringBuilder all = new StringBuilder();
        for (int i = 0; i < 12; i++) {
            all.append(x.has(i)).append(' ').append(x.pounds(i)).append(' ').append(x.route(i - 1)).append(' ');
            all.append(x.stock(i)).append(' ').append(x.could(i)).append(' ').append(x.starves(i)).append(' ');
            all.append(x.kept(i)).append(' ').append(x.when(i)).append(' ').append(x.bad(i - 1)).append(' ');
            for (int j = 0; j < 8; j++) {
                all.append(x.needs(i, j)).append(' ').append(x.change(i, j)).append(' ').append(x.press(i, j)).append(' ');
                all.append(x.mould(i, j)).append(' ').append(x.count(i, j)).append(' ').append(x.letter(j, i, 0)).append(' ');
            }
        }
        for (int i = 0; i < 60; i++) {
            for (int j = 0; j < 9; j++) {
                all.append(x.batch(i, j)).append(' ').append(x.lot(i, j)).append(' ').append(x.tyre(i, j)).append(' ');
                all.append(x.trace(i, j)).append(' ').append(x.spread(i, j)).append(' ');
            }
            all.append(x.others(i)).append(' ').append(x.octet(i)).append(' ').append(x.law(i)).append(' ');
            all.append(x.turn(i)).append(' ');
        }
        return all.append(x.match()).append(' ').append(x.waste()).toString();
    }

    /** A call that was refused: it answered so, one refusal of its kind more was counted, and nothing else changed. */
    static void refused(TyreWorks x, String call, int kind, Supplier<Object> made) {
        String before = state(x);
        int[] counted = new int[6];
        for (int k = 0; k < 6; k++) {
            counted[k] = x.status(k) + (k == kind ? 1 : 0);
        }
        Object answer = made.get();
        due(call + " is refused", answer.equals(TyreWorks.NONE) || answer.equals(false), true);
        due(call + " changes nothing", state(x).equals(before), true);
        for (int k = 0; k < 6; k++) {
            due("refusals of kind " + k + " behind " + call, x.status(k), counted[k]);
        }
    }
}
