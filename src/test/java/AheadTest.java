import java.util.ArrayList;
import java.util.List;
import java.util.Random;

/** Promises 34 to 36: presses that starve, orders that are kept, and when. */
public final class AheadTest {
    private static final int NONE = TyreWorks.NONE;
    private static final String START = "mix m ripe 0 stale 999;part p of m takes 1 wide 9;size a cures 4;size b cures 2;"
            + "needs a 1 p;needs b 1 p;change a b 0;change b a 0;press x;press y;press z;"
            + "mould ma of a lives 2;mould mb of b lives 3;mould mc of a lives 9;mould md of b lives 1;";

    public static void main(String[] args) {
        starves();
        keeps();
        keepsInHoursGoneBy();
        scrappedDoNotCount();
        nearTheLastHour();
        rests();
        atTheLastHour();
        manyHours();
        likeATwinThatLivesIt();
        Check.close();
    }

    private static TyreWorks stocked(String more) {
        TyreWorks x = Check.told(START + more);
        x.mix(0, 999);
        x.cut(0, 0, 60);
        return x;
    }

    private static void starves() {
        TyreWorks x = stocked("");
        Check.due("without a mould", x.starves(0), 0);
        Check.due("no such", x.starves(3), NONE);
        Check.due("no such", x.starves(-1), NONE);
        Check.due("new object", new TyreWorks().starves(0), NONE);
        for (int n = 0; n < 5; n++) {
            x.build(0);
        }
        x.mount(1, 0);
        Check.due("no mould", x.starves(0), 5);
        Check.due("the mould lives two", x.starves(1), 13);
        x.mount(0, 2);
        Check.due("two and three", x.starves(1), 13);
        Check.due("two and three", x.starves(0), 17);
        x.cure(0);
        x.hours(3);
        Check.due("in: 8 to 16 for y, x free in 9", x.starves(1), 16);
        Check.due("x has 9 and 13", x.starves(0), 17);
        Check.due("nothing was done", x.tyre(1, 1), 0);
        Check.due("nothing was done", x.mould(0, 2), 0);
        Check.due("nothing was done", x.has(7), 8);
    }

    private static void keeps() {
        TyreWorks x = stocked("order a 1 by 7;order b 1 by 7;order a 2 by 15;order a 1 by 9999;");
        for (int n = 0; n < 3; n++) {
            x.build(0);
        }
        x.mount(1, 0);
        Check.due("the first in 7", x.kept(0), 1);
        Check.due("when", x.when(0), 7);
        Check.due("none of b", x.kept(1), 0);
        Check.due("never", x.when(1), NONE);
        Check.due("three together, two live", x.kept(2), 0);
        Check.due("three together, two live", x.when(2), NONE);
        x.mount(0, 2);
        Check.due("three together", x.kept(2), 1);
        Check.due("three together", x.when(2), 11);
        Check.due("four together", x.kept(3), 0);
        Check.due("no such", x.kept(4), NONE);
        Check.due("no such", x.kept(-1), NONE);
        Check.due("no such", x.when(4), NONE);
        Check.due("no such", x.when(-1), NONE);
        x.hours(1);
        Check.due("an hour late", x.kept(0), 0);
        Check.due("an hour late", x.when(0), 8);
    }

    private static void keepsInHoursGoneBy() {
        TyreWorks x = stocked("order a 1 by 5;order a 1 by 8;order a 1 by 4;");
        x.mount(0, 2);
        x.build(0);
        x.cure(0);
        x.hours(4);
        Check.due("cured in that hour", x.kept(0), 1);
        Check.due("now", x.when(0), 5);
        x.build(0);
        x.cure(0);
        Check.due("two by 8", x.kept(1), 0);
        Check.due("two in 10", x.when(1), 10);
        x.hours(50);
        Check.due("still kept", x.kept(0), 1);
        Check.due("still not", x.kept(1), 0);
        Check.due("now", x.when(0), 56);
        Check.due("now", x.when(1), 56);
        Check.due("by 4, and two ahead of it", x.kept(2), 0);
    }

    private static void scrappedDoNotCount() {
        TyreWorks x = stocked("order a 1 by 9;bad when all;");
        x.mount(0, 2);
        x.build(0);
        x.cure(0);
        x.hours(4);
        Check.due("a bad one counts", x.bad(0), 1);
        Check.due("kept", x.kept(0), 1);
        x.scrap(0);
        Check.due("no longer", x.kept(0), 0);
        Check.due("no longer", x.when(0), NONE);
        x.build(0);
        x.scrap(1);
        Check.due("nor a scrapped green one", x.when(0), NONE);
    }

    private static void nearTheLastHour() {
        TyreWorks x = Check.told(START + "order a 1 by 9999;order a 1 by 9999;");
        for (int n = 0; n < 10; n++) {
            x.hours(999);
        }
        x.mix(0, 9);
        x.cut(0, 0, 9);
        x.hours(3);
        x.build(0);
        x.build(0);
        x.mount(0, 2);
        Check.due("9995 and 9999", x.kept(0), 1);
        Check.due("9999", x.when(0), 9999);
        Check.due("the next would be 10003", x.when(1), NONE);
        Check.due("never so", x.kept(1), 0);
        Check.due("it does not starve by 9999", x.starves(0), NONE);
        Check.due("no mould", x.starves(1), 9995);
    }

    private static void atTheLastHour() {
        TyreWorks x = Check.told(START + "order a 1 by 9999;");
        for (int n = 0; n < 10; n++) {
            x.hours(999);
        }
        x.mix(0, 9);
        x.cut(0, 0, 9);
        x.hours(4);
        x.build(0);
        x.mount(0, 2);
        Check.due("in the last hour", x.starves(0), 9999);
        Check.due("in the last hour", x.when(0), 9999);
        x.cure(0);
        Check.due("in the last hour", x.starves(0), 9999);
        x.hours(1);
        x.build(0);
        x.hours(3);
        Check.due("now", x.when(0), 9999);
        Check.due("it would cure on", x.starves(0), NONE);
    }

    /** Sixty tyres that rest long, so that nearly each hour of change is one of its own. */
    private static void manyHours() {
        String text = "mix m ripe 0 stale 999;part p of m takes 1 wide 9;size a cures 7;needs a 1 p;press x;"
                + "mould ma of a lives 99;rests 200 999;order a 55 by 9999;order a 5 by 9999;";
        TyreWorks x = Check.told(text);
        x.mix(0, 99);
        x.cut(0, 0, 60);
        x.mount(0, 0);
        for (int t = 0; t < 60; t++) {
            x.build(0);
            x.hours(2);
        }
        Check.due("starves", x.starves(0), 180);
        Check.due("55 are cured", x.when(0), 201 + 55 * 7);
        Check.due("all are cured", x.when(1), 201 + 60 * 7);
        Check.due("kept", x.kept(1), 1);
    }

    private static void rests() {
        TyreWorks x = stocked("rests 3 5;order a 3 by 9999;order b 1 by 9999;");
        x.build(0);
        x.build(0);
        x.build(0);
        x.mount(0, 2);
        Check.due("the first has rested 2", x.starves(0), 3);
        Check.due("4 to 8, then the third has rested 5", x.when(0), NONE);
        x.mount(1, 0);
        Check.due("4 to 8, 5 to 9, 8 to 12", x.when(0), 12);
        Check.due("both starve at once", x.starves(1), 3);
    }

    /** What comes by STARVES' way is what a twin lives through, hour by hour. */
    private static void likeATwinThatLivesIt() {
        Random random = new Random(3);
        for (int n = 0; n < 150; n++) {
            int least = random.nextInt(8);
            StringBuilder text = new StringBuilder(START);
            text.append("rests ").append(least).append(" ").append(least + random.nextInt(30)).append(";");
            int[] sizes = new int[4];
            int[] asks = new int[4];
            int[] dues = new int[4];
            for (int o = 0; o < 4; o++) {
                sizes[o] = random.nextInt(2);
                asks[o] = 1 + random.nextInt(4);
                dues[o] = random.nextInt(60);
                text.append("order ").append((char) ('a' + sizes[o])).append(" ").append(asks[o]);
                text.append(" by ").append(dues[o]).append(";");
            }
            List<int[]> acts = acts(random);
            TyreWorks x = stocked(text.substring(START.length()));
            TyreWorks twin = stocked(text.substring(START.length()));
            List<int[]> past = new ArrayList<>();
            note(twin, past);
            for (int[] act : acts) {
                act(x, act);
                actByHours(twin, act, past);
            }
            compare(x, twin, past, sizes, asks, dues);
        }
    }

    private static List<int[]> acts(Random random) {
        List<int[]> acts = new ArrayList<>();
        int many = 5 + random.nextInt(40);
        for (int i = 0; i < many; i++) {
            acts.add(new int[] {random.nextInt(10), random.nextInt(4), random.nextInt(4), 1 + random.nextInt(5)});
        }
        return acts;
    }

    private static void act(TyreWorks x, int[] act) {
        switch (act[0]) {
            case 0:
            case 1:
            case 2:
            case 3:
                x.build(act[1] % 2);
                break;
            case 4:
            case 5:
                x.mount(act[1], act[2]);
                break;
            case 6:
            case 7:
                x.cure(act[1]);
                break;
            case 8:
                x.clean(act[2]);
                break;
            default:
                x.hours(act[3]);
                break;
        }
    }

    private static void actByHours(TyreWorks twin, int[] act, List<int[]> past) {
        if (act[0] < 9) {
            act(twin, act);
            note(twin, past);
        } else {
            for (int n = 0; n < act[3]; n++) {
                twin.hours(1);
                note(twin, past);
            }
        }
    }

    /** Keeps how many of each size were cured in each hour that comes. */
    private static void note(TyreWorks twin, List<int[]> past) {
        if (past.size() <= twin.has(7)) {
            past.add(new int[] {twin.count(0, 2), twin.count(1, 2)});
        }
    }

    private static void compare(TyreWorks x, TyreWorks twin, List<int[]> past, int[] sizes, int[] asks, int[] dues) {
        int start = twin.has(7);
        int[] starved = {NONE, NONE, NONE};
        for (int hour = start; hour < start + 260; hour++) {
            for (int p = 0; p < 3; p++) {
                boolean free = twin.press(p, 1) == NONE;
                if (free && twin.cure(p) == NONE && starved[p] == NONE) {
                    starved[p] = hour;
                }
            }
            twin.hours(1);
            note(twin, past);
        }
        for (int p = 0; p < 3; p++) {
            Check.due("starves " + p, x.starves(p), starved[p]);
        }
        for (int o = 0; o < 4; o++) {
            int want = 0;
            for (int ahead = 0; ahead <= o; ahead++) {
                want += sizes[ahead] == sizes[o] ? asks[ahead] : 0;
            }
            int when = NONE;
            for (int hour = start; hour < past.size() && when == NONE; hour++) {
                when = past.get(hour)[sizes[o]] >= want ? hour : NONE;
            }
            Check.due("when " + o, x.when(o), when);
            Check.due("kept " + o, x.kept(o), past.get(dues[o])[sizes[o]] >= want ? 1 : 0);
        }
    }
}
