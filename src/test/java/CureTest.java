/** Promises 13, 14, 18 to 22: presses, moulds, cures, cleaning, scrapping, hours. */
public final class CureTest {
    private static final int NONE = TyreWorks.NONE;
    private static final String TEXT = "mix m ripe 0 stale 999;part p of m takes 1 wide 9;size a cures 4;size b cures 2;"
            + "needs a 1 p;needs b 1 p;press x;press y;mould ma of a lives 2;mould mb of b lives 1;mould mc of a lives 3;"
            + "rests 2 6;";

    public static void main(String[] args) {
        mounts();
        cures();
        keepsToTheRests();
        wearsOut();
        cleans();
        scraps();
        hours();
        curesBeyondTheLastHour();
        fourPresses();
        Check.close();
    }

    private static TyreWorks stocked() {
        TyreWorks x = Check.told(TEXT);
        x.mix(0, 999);
        x.cut(0, 0, 60);
        return x;
    }

    private static void press(TyreWorks x, int press, int mould, int tyre, int free) {
        Check.due("press " + press + " mould", x.press(press, 0), mould);
        Check.due("press " + press + " tyre", x.press(press, 1), tyre);
        Check.due("press " + press + " free", x.press(press, 2), free);
    }

    private static void mould(TyreWorks x, int mould, int... due) {
        for (int what = 0; what < due.length; what++) {
            Check.due("mould(" + mould + ", " + what + ")", x.mould(mould, what), due[what]);
        }
        Check.due("mould what 4", x.mould(mould, 4), NONE);
        Check.due("mould what -1", x.mould(mould, -1), NONE);
    }

    private static void mounts() {
        TyreWorks x = stocked();
        press(x, 0, NONE, NONE, 0);
        mould(x, 0, 0, NONE, 0, 2);
        mould(x, 1, 1, NONE, 0, 1);
        Check.due("mount", x.mount(0, 0), true);
        press(x, 0, 0, NONE, 0);
        mould(x, 0, 0, 0, 0, 2);
        Check.due("in a press already", x.mount(1, 0), false);
        Check.due("in that press already", x.mount(0, 0), false);
        Check.due("another comes in", x.mount(0, 1), true);
        mould(x, 0, 0, NONE, 0, 2);
        mould(x, 1, 1, 0, 0, 1);
        Check.due("now it is out", x.mount(1, 0), true);
        Check.due("no such press", x.mount(2, 2), false);
        Check.due("no such press", x.mount(-1, 2), false);
        Check.due("no such mould", x.mount(0, 3), false);
        Check.due("no such mould", x.mount(0, -1), false);
        Check.due("mountings", x.has(11), 3);
        Check.due("refusals", x.status(3), 6);
        Check.due("press 2", x.press(2, 0), NONE);
        Check.due("press -1", x.press(-1, 0), NONE);
        Check.due("press what 3", x.press(0, 3), NONE);
        Check.due("press what -1", x.press(0, -1), NONE);
        Check.due("mould 3", x.mould(3, 0), NONE);
        Check.due("mould -1", x.mould(-1, 0), NONE);
    }

    private static void cures() {
        TyreWorks x = stocked();
        x.build(1);
        x.build(0);
        x.build(0);
        Check.due("without a mould", x.cure(0), NONE);
        x.mount(0, 0);
        x.mount(1, 2);
        Check.due("no such press", x.cure(2), NONE);
        Check.due("no such press", x.cure(-1), NONE);
        x.hours(2);
        Check.due("hour", x.has(7), 6);
        Check.due("the first of its size", x.cure(0), 1);
        Check.due("the next", x.cure(1), 2);
        Check.due("it cures", x.cure(0), NONE);
        press(x, 0, 0, 1, 10);
        mould(x, 0, 0, 0, 1, 2);
        Check.due("in", x.tyre(1, 1), 1);
        Check.due("worn", x.tyre(1, 5), 0);
        Check.due("at", x.tyre(2, 6), 1);
        Check.due("lay", x.tyre(1, 7), 3);
        Check.due("not yet cured", x.tyre(1, 8), NONE);
        Check.due("no mounting into it", x.mount(0, 1), false);
        Check.due("three hours", x.hours(3), 0);
        Check.due("still in", x.tyre(1, 1), 1);
        Check.due("the hour behind", x.hours(1), 2);
        Check.due("cured", x.tyre(1, 1), 2);
        Check.due("good", x.tyre(1, 8), 0);
        Check.due("worn stays", x.tyre(1, 5), 0);
        Check.due("press stays", x.tyre(2, 6), 1);
        press(x, 0, 0, NONE, 10);
        Check.due("nothing green of it", x.cure(0), NONE);
        Check.due("refusals", x.status(3), 6);
        Check.due("scrapped stays worn", x.scrap(1), true);
        Check.due("worn of a scrapped one", x.tyre(1, 5), 0);
        Check.due("lay of a scrapped one", x.tyre(1, 7), 3);
        Check.due("no longer good or bad", x.tyre(1, 8), NONE);
    }

    private static void keepsToTheRests() {
        TyreWorks x = stocked();
        x.mount(0, 0);
        x.build(0);
        Check.due("rest 0", x.cure(0), NONE);
        x.hours(1);
        Check.due("rest 1", x.cure(0), NONE);
        x.hours(1);
        Check.due("rest 2", x.cure(0), 0);
        x = stocked();
        x.mount(0, 0);
        x.build(0);
        x.hours(6);
        Check.due("rest 6", x.cure(0), 0);
        x = stocked();
        x.mount(0, 0);
        x.build(0);
        x.hours(3);
        x.build(0);
        x.hours(3);
        Check.due("rest 7 is too long, the next has 3", x.cure(0), 1);
        x = Check.told("mix m ripe 0 stale 999;part p of m takes 1 wide 9;size a cures 4;needs a 1 p;press x;"
                + "mould ma of a lives 2;");
        x.mix(0, 9);
        x.cut(0, 0, 9);
        x.mount(0, 0);
        x.build(0);
        x.build(0);
        Check.due("rest 1 without rests", x.cure(0), 0);
        x.hours(999);
        Check.due("rest 999 without rests", x.cure(0), 1);
    }

    private static void wearsOut() {
        TyreWorks x = stocked();
        x.mount(0, 1);
        x.mount(1, 2);
        x.build(1);
        x.build(1);
        x.hours(2);
        Check.due("one", x.cure(0), 0);
        x.hours(2);
        Check.due("it lived", x.cure(0), NONE);
        mould(x, 1, 1, 0, 1, 1);
        Check.due("clean", x.clean(1), 1);
        mould(x, 1, 1, 0, 0, 1);
        Check.due("again", x.cure(0), 1);
        Check.due("worn since clean", x.tyre(1, 5), 0);
        for (int n = 0; n < 4; n++) {
            x.build(0);
            x.hours(3);
            Check.due("cure " + n, x.cure(1), n < 3 ? n + 2 : NONE);
            x.hours(4);
        }
        Check.due("worn", x.tyre(3, 5), 1);
        Check.due("worn", x.tyre(4, 5), 2);
    }

    private static void cleans() {
        TyreWorks x = stocked();
        Check.due("clean already", x.clean(0), 0);
        Check.due("no such", x.clean(3), NONE);
        Check.due("no such", x.clean(-1), NONE);
        x.mount(0, 0);
        x.build(0);
        x.hours(2);
        x.cure(0);
        Check.due("it cures", x.clean(0), NONE);
        Check.due("another may be", x.clean(2), 0);
        x.hours(4);
        Check.due("now", x.clean(0), 1);
        Check.due("refusals", x.status(3), 3);
        x.build(0);
        x.hours(2);
        x.cure(0);
        x.hours(4);
        x.mount(0, 2);
        mould(x, 0, 0, NONE, 1, 2);
        Check.due("out of a press", x.clean(0), 1);
        mould(x, 0, 0, NONE, 0, 2);
    }

    private static void scraps() {
        TyreWorks x = stocked();
        x.mount(0, 0);
        x.build(0);
        x.build(0);
        Check.due("green", x.scrap(0), true);
        Check.due("state", x.tyre(0, 1), 3);
        Check.due("again", x.scrap(0), false);
        x.hours(2);
        Check.due("a scrapped one is not cured", x.cure(0), 1);
        Check.due("in a press", x.scrap(1), false);
        x.hours(4);
        Check.due("cured", x.scrap(1), true);
        Check.due("no such", x.scrap(2), false);
        Check.due("no such", x.scrap(-1), false);
        Check.due("refusals", x.status(3), 4);
        Check.due("ahead of its cure", x.tyre(0, 5), NONE);
        Check.due("ahead of its cure", x.tyre(0, 6), NONE);
        Check.due("ahead of its cure", x.tyre(0, 7), NONE);
    }

    private static void hours() {
        TyreWorks x = stocked();
        Check.due("0", x.hours(0), NONE);
        Check.due("-1", x.hours(-1), NONE);
        Check.due("1000", x.hours(1000), NONE);
        for (int n = 0; n < 10; n++) {
            x.hours(999);
        }
        Check.due("beyond", x.hours(10), NONE);
        Check.due("hour", x.has(7), 9990);
        Check.due("to the last", x.hours(9), 0);
        Check.due("no more", x.hours(1), NONE);
        Check.due("far too many", x.hours(Integer.MAX_VALUE), NONE);
        Check.due("hour", x.has(7), 9999);
        Check.due("refusals", x.status(4), 6);
    }

    private static void fourPresses() {
        StringBuilder text = new StringBuilder("mix m ripe 0 stale 999;part p of m takes 1 wide 9;size a cures 4;needs a 1 p;");
        for (char c = 'a'; c < 'e'; c++) {
            text.append("press p").append(c).append(";");
        }
        for (char c = 'a'; c < 'i'; c++) {
            text.append("mould m").append(c).append(" of a lives 1;");
        }
        TyreWorks x = Check.told(text.toString());
        x.mix(0, 99);
        x.cut(0, 0, 9);
        for (int p = 0; p < 4; p++) {
            Check.due("build", x.build(0), p);
            Check.due("mount", x.mount(p, 7 - p), true);
            mould(x, 7 - p, 0, p, 0, 1);
        }
        for (int p = 0; p < 4; p++) {
            Check.due("starves", x.starves(p), 8);
            Check.due("cure", x.cure(p), p);
            press(x, p, 7 - p, p, 8);
        }
        Check.due("all four", x.hours(4), 4);
        press(x, 3, 4, NONE, 8);
    }

    private static void curesBeyondTheLastHour() {
        TyreWorks x = Check.told(TEXT);
        for (int n = 0; n < 10; n++) {
            x.hours(999);
        }
        x.mix(0, 9);
        x.cut(0, 0, 9);
        x.mount(0, 0);
        x.build(0);
        x.hours(6);
        Check.due("cure", x.cure(0), 0);
        Check.due("free", x.press(0, 2), 10001);
        x.hours(2);
        Check.due("never cured", x.tyre(0, 1), 1);
    }
}
