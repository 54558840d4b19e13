/** Promises 12, 17, 25 to 28: green tyres, what they are made of, traced both ways. */
public final class BuildTest {
    private static final int NONE = TyreWorks.NONE;
    private static final String TEXT = "mix m ripe 0 stale 20;mix n ripe 3 stale 99;part p of m takes 3 wide 9;"
            + "part q of n takes 1 wide 9;size a cures 4;size b cures 2;size none cures 1;"
            + "needs a 2 q;needs a 3 p;needs b 1 p;change a b 5;press x;mould ma of a lives 9;";

    public static void main(String[] args) {
        builds();
        takesTheFirstLots();
        refuses();
        hoursGoBy();
        stopsAtTheLastHour();
        holdsSixty();
        counts();
        could();
        tracesTheFirst();
        traces();
        Check.close();
    }

    private static void tyre(TyreWorks x, int tyre, int... due) {
        for (int what = 0; what < due.length; what++) {
            Check.due("tyre(" + tyre + ", " + what + ")", x.tyre(tyre, what), due[what]);
        }
        Check.due("tyre what 9", x.tyre(tyre, 9), NONE);
        Check.due("tyre what -1", x.tyre(tyre, -1), NONE);
    }

    private static TyreWorks stocked() {
        TyreWorks x = Check.told(TEXT);
        x.mix(1, 100);
        x.hours(4);
        x.mix(0, 200);
        x.cut(0, 1, 20);
        x.cut(1, 0, 30);
        return x;
    }

    private static void builds() {
        TyreWorks x = stocked();
        Check.due("ahead of any", x.tyre(0, 0), NONE);
        Check.due("build a", x.build(0), 0);
        Check.due("the first takes an hour", x.has(7), 5);
        Check.due("build a", x.build(0), 1);
        Check.due("the same takes an hour", x.has(7), 6);
        Check.due("build b", x.build(1), 2);
        Check.due("change and an hour", x.has(7), 12);
        Check.due("build a", x.build(0), 3);
        Check.due("1 without", x.has(7), 14);
        tyre(x, 0, 0, 0, 5, 3, 5, NONE, NONE, NONE, NONE);
        tyre(x, 2, 1, 0, 12, 2, 8, NONE, NONE, NONE, NONE);
        tyre(x, 3, 0, 0, 14, 3, 14, NONE, NONE, NONE, NONE);
        Check.due("tyre 4", x.tyre(4, 0), NONE);
        Check.due("tyre -1", x.tyre(-1, 0), NONE);
        Check.due("p left", x.lot(1, 2), 30 - 10);
        Check.due("q left", x.lot(0, 2), 20 - 6);
        Check.due("tyres", x.has(10), 4);
    }

    private static void takesTheFirstLots() {
        TyreWorks x = Check.told(TEXT);
        x.mix(0, 99);
        x.mix(0, 99);
        x.mix(1, 99);
        x.hours(3);
        x.cut(1, 0, 2);
        x.cut(0, 0, 2);
        x.cut(1, 0, 9);
        x.cut(2, 1, 9);
        Check.due("build", x.build(0), 0);
        Check.due("both batches of p", x.tyre(0, 3), 7);
        Check.due("first lot", x.lot(0, 2), 0);
        Check.due("second lot", x.lot(1, 2), 1);
        Check.due("third lot", x.lot(2, 2), 9);
        Check.due("build b", x.build(1), 1);
        Check.due("one batch", x.tyre(1, 3), 1);
        Check.due("build b", x.build(1), 2);
        Check.due("the next lot", x.tyre(2, 3), 2);
        Check.due("third lot", x.lot(2, 2), 8);
    }

    private static void refuses() {
        TyreWorks x = stocked();
        Check.due("no such size", x.build(3), NONE);
        Check.due("no such size", x.build(-1), NONE);
        Check.due("without needs", x.build(2), NONE);
        x.hours(21);
        Check.due("stale p", x.build(0), NONE);
        Check.due("stale p", x.build(1), NONE);
        Check.due("q stays", x.lot(0, 2), 20);
        Check.due("hour stays", x.has(7), 25);
        x.mix(0, 99);
        x.cut(2, 0, 2);
        Check.due("one p lacks", x.build(0), NONE);
        Check.due("nothing taken", x.lot(2, 2), 2);
        Check.due("refusals", x.status(2), 6);
        Check.due("enough for b", x.build(1), 0);
        Check.due("of fit lots", x.tyre(0, 3), 4);
    }

    private static void hoursGoBy() {
        TyreWorks x = stocked();
        x.build(0);
        x.mount(0, 0);
        Check.due("cure", x.cure(0), 0);
        Check.due("build b", x.build(1), 1);
        Check.due("hour", x.has(7), 11);
        Check.due("cured meanwhile", x.tyre(0, 1), 2);
        Check.due("press is free", x.press(0, 1), NONE);
        x = Check.told(TEXT);
        x.mix(0, 9);
        x.hours(20);
        x.cut(0, 0, 3);
        Check.due("the parts are fit at the start", x.build(1), 0);
        Check.due("old in the later hour", x.tyre(0, 4), 21);
        Check.due("stale now", x.build(1), NONE);
    }

    private static void stopsAtTheLastHour() {
        TyreWorks x = Check.told(TEXT);
        for (int n = 0; n < 10; n++) {
            Check.due("hours", x.hours(999), 0);
        }
        x.mix(1, 99);
        x.mix(0, 99);
        x.hours(3);
        x.cut(0, 1, 9);
        x.cut(1, 0, 20);
        Check.due("build a", x.build(0), 0);
        Check.due("hour", x.has(7), 9994);
        Check.due("change to b goes beyond", x.build(1), NONE);
        Check.due("nothing taken", x.lot(1, 2), 17);
        Check.due("a still goes", x.build(0), 1);
        Check.due("hours", x.hours(3), 0);
        Check.due("a still goes", x.build(0), 2);
        Check.due("hour", x.has(7), 9999);
        Check.due("no hour more", x.build(0), NONE);
        Check.due("tyres", x.has(10), 3);
    }

    private static void holdsSixty() {
        TyreWorks x = Check.told("mix m ripe 0 stale 999;part p of m takes 1 wide 1;size s cures 1;needs s 1 p;");
        x.mix(0, 999);
        x.cut(0, 0, 60);
        x.cut(0, 0, 60);
        for (int n = 0; n < 60; n++) {
            Check.due("build " + n, x.build(0), n);
        }
        Check.due("61st", x.build(0), NONE);
        Check.due("hour", x.has(7), 60);
        Check.due("scrap", x.scrap(0), true);
        Check.due("a scrapped one counts", x.build(0), NONE);
        Check.due("refusals", x.status(2), 2);
        Check.due("trace the last", x.trace(0, 59), 59);
        Check.due("image", x.image(), 304);
    }

    private static void counts() {
        TyreWorks x = stocked();
        x.build(0);
        x.build(0);
        x.build(0);
        x.build(1);
        x.build(1);
        x.mount(0, 0);
        x.cure(0);
        x.hours(4);
        x.cure(0);
        x.scrap(4);
        int[][] due = {{1, 1, 1, 0}, {1, 0, 0, 1}, {0, 0, 0, 0}};
        for (int size = 0; size < 3; size++) {
            for (int state = 0; state < 4; state++) {
                Check.due("count " + size + " " + state, x.count(size, state), due[size][state]);
            }
            Check.due("state 4", x.count(size, 4), NONE);
            Check.due("state -1", x.count(size, -1), NONE);
        }
        Check.due("size 3", x.count(3, 0), NONE);
        Check.due("size -1", x.count(-1, 0), NONE);
    }

    private static void could() {
        TyreWorks x = stocked();
        Check.due("a: q for 10, p for 10", x.could(0), 10);
        Check.due("b", x.could(1), 30);
        Check.due("without needs", x.could(2), NONE);
        Check.due("no such", x.could(3), NONE);
        Check.due("no such", x.could(-1), NONE);
        x.build(1);
        Check.due("a: p for 9", x.could(0), 9);
        x.hours(20);
        Check.due("stale", x.could(1), 0);
        x.hours(999);
        Check.due("not asking for hours", x.could(0), 0);
    }

    private static void tracesTheFirst() {
        TyreWorks x = stocked();
        x.build(0);
        Check.due("trace", x.trace(0, 0), 0);
        Check.due("others", x.others(0), 2);
        Check.due("others", x.others(1), 1);
        x.build(1);
        Check.due("others stay", x.others(1), 1);
    }

    private static void traces() {
        TyreWorks x = Check.told(TEXT);
        x.mix(1, 99);
        x.mix(0, 9);
        x.mix(0, 99);
        x.mix(0, 9);
        x.hours(3);
        x.cut(0, 1, 9);
        x.cut(1, 0, 3);
        x.cut(2, 0, 9);
        Check.due("not yet in any", x.trace(0, 0), NONE);
        Check.due("not yet in any", x.others(0), 0);
        x.build(1);
        x.build(0);
        x.build(0);
        x.build(1);
        x.scrap(2);
        int[][] due = {{1, 2}, {0, 1}, {1, 2, 3}, {}};
        int[] others = {6, 5, 3, 0};
        for (int b = 0; b < due.length; b++) {
            for (int k = 0; k < due[b].length; k++) {
                Check.due("trace " + b + " " + k, x.trace(b, k), due[b][k]);
            }
            Check.due("trace behind " + b, x.trace(b, due[b].length), NONE);
            Check.due("trace ahead of " + b, x.trace(b, -1), NONE);
            Check.due("others " + b, x.others(b), others[b]);
        }
        Check.due("trace 32", x.trace(32, 0), NONE);
        Check.due("others 33", x.others(33), NONE);
        Check.due("trace 4", x.trace(4, 0), NONE);
        Check.due("trace -1", x.trace(-1, 0), NONE);
        Check.due("others 4", x.others(4), NONE);
        Check.due("others -1", x.others(-1), NONE);
    }
}
