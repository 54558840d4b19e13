import java.util.Random;

/** Promises 31 and 32: the fewest sheets and their waste. */
public final class SheetTest {
    private static final int NONE = TyreWorks.NONE;

    public static void main(String[] args) {
        cuts();
        refuses();
        tooWide();
        withoutASheetTold();
        likeEveryWayTried();
        Check.close();
    }

    private static void sheets(TyreWorks x, int due, int waste, int... parts) {
        Check.bytes(x, parts);
        Check.due("sheets", x.sheets(), due);
        Check.due("waste", x.waste(), waste);
        Check.due("the tape is gone", x.end(1), false);
    }

    private static void cuts() {
        TyreWorks x = Check.widths("sheet 100 splice 2;", 49, 50, 30, 99);
        Check.due("waste ahead of any", x.waste(), NONE);
        sheets(x, 1, 51, 0);
        sheets(x, 1, 2, 0, 0);
        sheets(x, 2, 101, 0, 1);
        sheets(x, 1, 10, 2, 2, 2);
        sheets(x, 2, 80, 2, 2, 2, 2);
        sheets(x, 2, 2, 3, 3);
        sheets(x, 12, 12, 3, 3, 3, 3, 3, 3, 3, 3, 3, 3, 3, 3);
        sheets(x, 4, 40, 2, 2, 2, 2, 2, 2, 2, 2, 2, 2, 2, 2);
        Check.due("works() leaves it", Check.works(x, ""), 0);
        Check.due("the latest waste", x.waste(), 40);
        x = Check.widths("sheet 10 splice 0;", 4, 3, 2);
        sheets(x, 2, 0, 0, 0, 1, 1, 1, 1);
        sheets(x, 3, 0, 0, 1, 1, 0, 1, 1, 0, 1, 1);
        x = Check.widths("sheet 99 splice 9;", 99, 45, 46);
        sheets(x, 1, 9, 1, 1);
        sheets(x, 2, 107, 1, 2);
    }

    private static void refuses() {
        TyreWorks x = Check.widths("sheet 100 splice 2;", 49, 50);
        sheets(x, 1, 51, 0);
        sheets(x, NONE, NONE);
        sheets(x, NONE, NONE, 2);
        sheets(x, 1, 50, 1);
        sheets(x, NONE, NONE, 0, 0, 255);
        sheets(x, NONE, NONE, 0, 0, 0, 0, 0, 0, 0, 0, 0, 0, 0, 0, 0);
        sheets(x, 6, 12, 0, 0, 0, 0, 0, 0, 0, 0, 0, 0, 0, 0);
        Check.due("refusals", x.status(5), 4);
    }

    private static void tooWide() {
        TyreWorks x = Check.widths("sheet 40 splice 2;", 40, 41);
        sheets(x, NONE, NONE, 0, 1);
        sheets(x, NONE, NONE, 1, 0);
        sheets(x, NONE, NONE, 1);
        Check.due("too wide is none", x.status(5), 0);
        sheets(x, NONE, NONE, 1, 7);
        Check.due("none such is one", x.status(5), 1);
        sheets(x, 1, 0, 0);
    }

    private static void withoutASheetTold() {
        TyreWorks x = Check.widths("", 50, 51);
        sheets(x, 1, 0, 0, 0);
        sheets(x, 2, 98, 1, 1);
        x = Check.widths("sheet 10 splice 3;sheet 60 splice 0;", 30, 51);
        sheets(x, 1, 0, 0, 0);
    }

    private static void likeEveryWayTried() {
        Random random = new Random(7);
        for (int n = 0; n < 120; n++) {
            int sheet = 20 + random.nextInt(n % 3 == 0 ? 380 : 120);
            int splice = random.nextInt(10);
            int[] widths = new int[8];
            for (int i = 0; i < 8; i++) {
                widths[i] = 1 + random.nextInt(Math.min(99, sheet));
            }
            TyreWorks x = Check.widths("sheet " + sheet + " splice " + splice + ";", widths);
            int[] parts = new int[1 + random.nextInt(9)];
            int all = 0;
            for (int i = 0; i < parts.length; i++) {
                parts[i] = random.nextInt(8);
                all += widths[parts[i]];
            }
            int due = fewest(parts, widths, sheet, splice, 0, new int[parts.length], 0);
            sheets(x, due, due * sheet - all, parts);
        }
    }

    private static int fewest(int[] parts, int[] widths, int sheet, int splice, int at, int[] fills, int used) {
        if (at == parts.length) {
            return used;
        }
        int width = widths[parts[at]];
        int best = Integer.MAX_VALUE;
        for (int s = 0; s <= used; s++) {
            int kept = fills[s];
            int fill = s == used ? width : kept + splice + width;
            if (fill <= sheet) {
                fills[s] = fill;
                best = Math.min(best, fewest(parts, widths, sheet, splice, at + 1, fills, Math.max(used, s + 1)));
                fills[s] = kept;
            }
        }
        return best;
    }
}
