/** Promises 37 to 40: waves, spreads, turns, the best match. */
public final class WaveTest {
    private static final int NONE = TyreWorks.NONE;
    private static final String TEXT = "mix m ripe 0 stale 999;part p of m takes 1 wide 9;size a cures 1;needs a 1 p;"
            + "press x;mould ma of a lives 99;bad when worn=1;";

    public static void main(String[] args) {
        takesWaves();
        spreads();
        turns();
        matches();
        Check.close();
    }

    private static TyreWorks built(int tyres) {
        TyreWorks x = Check.told(TEXT);
        x.mix(0, 99);
        x.cut(0, 0, 60);
        for (int t = 0; t < tyres; t++) {
            x.build(0);
        }
        return x;
    }

    private static boolean wave(TyreWorks x, int tyre, int... bytes) {
        Check.bytes(x, bytes);
        return x.wave(tyre);
    }

    private static void takesWaves() {
        TyreWorks x = built(1);
        Check.due("of the wheel", wave(x, NONE, 0, 0, 0, 0, 0, 0, 0, 255), true);
        Check.due("the tape is gone", x.end(1), false);
        Check.due("of a tyre", wave(x, 0, 255, 0, 0, 0, 0, 0, 0, 0), true);
        Check.due("greatest", x.spread(0, 7), 510);
        Check.due("seven bytes", wave(x, NONE, 1, 2, 3, 4, 5, 6, 7), false);
        Check.due("nine bytes", wave(x, 0, 1, 2, 3, 4, 5, 6, 7, 8, 9), false);
        Check.due("no bytes", wave(x, 0), false);
        Check.due("no such tyre", wave(x, 1, 1, 2, 3, 4, 5, 6, 7, 8), false);
        Check.due("the tape is gone", x.end(1), false);
        Check.due("no such tyre", wave(x, -2, 1, 2, 3, 4, 5, 6, 7, 8), false);
        Check.due("nothing changed", x.spread(0, 7), 510);
        Check.due("refusals", x.status(5), 5);
        Check.due("the wheel of a new object", wave(new TyreWorks(), NONE, 1, 2, 3, 4, 5, 6, 7, 8), true);
    }

    private static void spreads() {
        TyreWorks x = built(1);
        Check.due("all 0 at first", x.spread(0, 3), 0);
        wave(x, NONE, 0, 10, 0, 0, 0, 0, 0, 0);
        Check.due("the wheel alone", x.spread(0, 0), 10);
        wave(x, 0, 4, 0, 0, 0, 0, 0, 0, 0);
        Check.due("apart", x.spread(0, 0), 10);
        Check.due("place 0 comes to 1", x.spread(0, 1), 14);
        Check.due("place 0 comes to 7", x.spread(0, 7), 10);
        wave(x, 0, 10, 0, 10, 10, 10, 10, 10, 10);
        Check.due("against each other", x.spread(0, 0), 0);
        Check.due("turned", x.spread(0, 1), 20);
        wave(x, 0, 10, 10, 10, 10, 10, 10, 10, 0);
        Check.due("place 7 comes to 1", x.spread(0, 2), 0);
        Check.due("r 8", x.spread(0, 8), NONE);
        Check.due("r -1", x.spread(0, -1), NONE);
        Check.due("no such", x.spread(1, 0), NONE);
        Check.due("no such", x.spread(-1, 0), NONE);
    }

    private static void turns() {
        TyreWorks x = built(1);
        Check.due("the first of like ones", x.turn(0), 0);
        wave(x, NONE, 0, 10, 0, 0, 0, 0, 0, 0);
        wave(x, 0, 10, 10, 10, 10, 10, 10, 10, 0);
        Check.due("best", x.turn(0), 2);
        wave(x, 0, 9, 0, 0, 0, 0, 0, 0, 0);
        Check.due("of like ones the first", x.turn(0), 0);
        wave(x, 0, 0, 9, 0, 0, 0, 0, 0, 0);
        Check.due("0 is the worst", x.turn(0), 1);
        wave(x, 0, 10, 10, 0, 10, 10, 10, 10, 10);
        Check.due("the last", x.turn(0), 7);
        Check.due("no such", x.turn(1), NONE);
        Check.due("no such", x.turn(-1), NONE);
        Check.due("of a new object", new TyreWorks().turn(0), NONE);
    }

    private static void matches() {
        TyreWorks x = built(5);
        Check.due("none cured", x.match(), NONE);
        wave(x, NONE, 0, 50, 0, 0, 0, 0, 0, 0);
        int[] heights = {9, 50, 20, 20, 50};
        for (int t = 0; t < 5; t++) {
            int h = heights[t];
            wave(x, t, h, h, h, h, 0, h, h, h);
        }
        x.mount(0, 0);
        for (int t = 0; t < 4; t++) {
            x.cure(0);
            x.hours(1);
        }
        Check.due("tyre 1 is bad", x.law(1), 0);
        Check.due("tyre 4 is green", x.tyre(4, 1), 0);
        Check.due("the first of like ones", x.match(), 2);
        x.scrap(2);
        Check.due("the other", x.match(), 3);
        x.scrap(3);
        Check.due("the last good one", x.match(), 0);
        x.cure(0);
        x.hours(1);
        Check.due("now the best", x.match(), 4);
        x.scrap(4);
        x.scrap(0);
        Check.due("bad ones alone", x.match(), NONE);
        Check.due("of a new object", new TyreWorks().match(), NONE);
    }
}
