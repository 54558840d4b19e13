/** Promise 23: a works that goes on by itself. */
public final class GoOnTest {
    private static final int NONE = TyreWorks.NONE;
    private static final String START = "mix m ripe 0 stale 999;part p of m takes 1 wide 9;part q of m takes 1 wide 9;"
            + "size a cures 4;size b cures 2;size c cures 1;needs a 1 p;needs b 1 q;change a b 3;change b a 2;"
            + "press x;press y;mould ma of a lives 2;mould mb of b lives 9;";

    public static void main(String[] args) {
        refuses();
        buildsAsOrdersAsk();
        curesFirst();
        goesSomewhatFurther();
        buildsForScrappedOnes();
        endsAtTheLastHour();
        takesAnotherOrderAtTheLastHour();
        isTheSameByHand();
        Check.close();
    }

    private static TyreWorks stocked(String orders) {
        TyreWorks x = Check.told(START + orders);
        x.mix(0, 999);
        x.cut(0, 0, 60);
        x.cut(0, 1, 60);
        return x;
    }

    private static void refuses() {
        TyreWorks x = stocked("order a 2 by 9;");
        Check.due("0", x.goOn(0), NONE);
        Check.due("-1", x.goOn(-1), NONE);
        Check.due("201", x.goOn(201), NONE);
        Check.due("refusals", x.status(4), 3);
        Check.due("hour", x.has(7), 0);
        Check.due("200", x.goOn(200), 2);
        Check.due("hour", x.has(7), 200);
        Check.due("on nothing", new TyreWorks().goOn(1), 0);
    }

    private static void buildsAsOrdersAsk() {
        TyreWorks x = stocked("order a 1 by 9;order b 2 by 9;order a 1 by 9;");
        Check.due("built", x.goOn(20), 4);
        int[] sizes = {0, 0, 1, 1};
        int[] hours = {1, 2, 6, 7};
        for (int t = 0; t < 4; t++) {
            Check.due("size " + t, x.tyre(t, 0), sizes[t]);
            Check.due("hour " + t, x.tyre(t, 2), hours[t]);
        }
        Check.due("hour", x.has(7), 20);
        Check.due("no refusal of cures in it", x.status(3), 0);
        Check.due("no refusal of builds in it", x.status(2), 0);
        x = stocked("order c 2 by 9;order b 1 by 9;");
        Check.due("the first can't be built", x.goOn(3), 1);
        Check.due("the next is", x.tyre(0, 0), 1);
        x = stocked("order b 1 by 9;");
        x.build(0);
        Check.due("by the change from what was built by hand", x.goOn(1), 1);
        Check.due("hour", x.has(7), 5);
    }

    private static void curesFirst() {
        TyreWorks x = stocked("order a 3 by 9;");
        x.mount(1, 0);
        Check.due("built", x.goOn(2), 2);
        Check.due("cured in the hour of the second turn", x.tyre(0, 7), 0);
        Check.due("in", x.press(1, 1), 0);
        Check.due("not in the last hour", x.tyre(1, 1), 0);
        Check.due("built", x.goOn(3), 1);
        Check.due("cured once, in again not yet", x.press(1, 1), NONE);
        Check.due("cured", x.tyre(0, 1), 2);
        Check.due("none built", x.goOn(30), 0);
        Check.due("the mould lives two", x.count(0, 2), 2);
        Check.due("one stays green", x.count(0, 0), 1);
    }

    private static void goesSomewhatFurther() {
        TyreWorks x = stocked("order a 1 by 9;order b 1 by 9;");
        Check.due("two", x.goOn(2), 2);
        Check.due("somewhat further", x.has(7), 5);
    }

    private static void buildsForScrappedOnes() {
        TyreWorks x = stocked("order a 2 by 9;");
        x.goOn(9);
        Check.due("none", x.goOn(9), 0);
        x.scrap(0);
        Check.due("one more", x.goOn(9), 1);
        Check.due("none", x.goOn(9), 0);
        Check.due("tyres", x.has(10), 3);
    }

    private static TyreWorks late(String orders) {
        TyreWorks x = Check.told(START + orders);
        for (int n = 0; n < 10; n++) {
            x.hours(999);
        }
        x.mix(0, 999);
        x.cut(0, 0, 60);
        x.cut(0, 1, 60);
        return x;
    }

    private static void endsAtTheLastHour() {
        TyreWorks x = late("order a 5 by 9;");
        x.mount(0, 0);
        Check.due("five", x.goOn(200), 5);
        Check.due("hour", x.has(7), 9999);
        Check.due("nothing more", x.goOn(5), 0);
        Check.due("hour", x.has(7), 9999);
        Check.due("cured", x.count(0, 2), 2);
        x.clean(0);
        Check.due("a press still cures in that hour", x.goOn(1), 0);
        Check.due("in", x.press(0, 1), 2);
        Check.due("no refusal", x.status(4), 0);
    }

    private static void takesAnotherOrderAtTheLastHour() {
        TyreWorks x = late("order b 1 by 9;order a 40 by 9;");
        x.hours(4);
        x.build(0);
        x.build(0);
        Check.due("hour", x.has(7), 9996);
        Check.due("b would go beyond, a is built", x.goOn(200), 3);
        Check.due("hour", x.has(7), 9999);
        Check.due("none of b", x.count(1, 0), 0);
    }

    /** The same works, gone on and by hand. */
    private static void isTheSameByHand() {
        String orders = "rests 1 5;order b 3 by 9;order a 4 by 9;order b 2 by 9;";
        for (int n = 1; n <= 40; n++) {
            TyreWorks x = stocked(orders);
            TyreWorks y = stocked(orders);
            x.mount(0, 1);
            y.mount(0, 1);
            x.mount(1, 0);
            y.mount(1, 0);
            int built = 0;
            for (int turn = 0; turn < n && y.has(7) < n; turn++) {
                y.cure(0);
                y.cure(1);
                int size = fewer(y, 1, 5) ? 1 : fewer(y, 0, 4) ? 0 : NONE;
                if (size != NONE) {
                    y.build(size);
                    built++;
                } else {
                    y.hours(1);
                }
            }
            Check.due("built in " + n, x.goOn(n), built);
            Check.due("length", x.image(), y.image());
            for (int k = 0; k < y.image(); k++) {
                Check.due("octet " + k + " in " + n, x.octet(k), y.octet(k));
            }
        }
    }

    private static boolean fewer(TyreWorks y, int size, int asked) {
        return y.count(size, 0) + y.count(size, 1) + y.count(size, 2) < asked;
    }
}
