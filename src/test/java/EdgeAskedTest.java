import java.util.Arrays;

/** Terms III and promises 24 to 44, sentence by sentence, where one names a boundary: what is asked, images, refusals. */
public final class EdgeAskedTest {
    private static final int NONE = TyreWorks.NONE;
    private static final String PLAIN = "mix m ripe 0 stale 999;part p of m takes 1 wide 1;size s cures 5;size t cures 2;"
            + "size none cures 1;needs s 2 p;needs t 1 p;press ra;press rb;mould ms of s lives 9;mould mt of t lives 9;"
            + "mould mx of s lives 2;";

    public static void main(String[] args) {
        stock();
        counts();
        couldBeBuilt();
        kthTyre();
        othersBits();
        badIfSomeLawHolds();
        badOfAny();
        firstLaw();
        toldPartsTwelveAtMost();
        eachOnce();
        asWideAsTold();
        spliceBetweenEachTwo();
        tooWideOrNoneSuch();
        wasteOfTheLatest();
        routeWithoutOrders();
        kthSizeOfTheRoute();
        leastOnesFirstByNumbers();
        fromTheSizeBuiltAhead();
        starvesFromNow();
        starvesWheneverFree();
        starvesByTheLastHour();
        noSuchPressStarves();
        curedInThatHourCounts();
        ordersAheadOfItForThatSize();
        notScrappedBadOnesToo();
        hoursGoneBy();
        whenNowOrNever();
        noSuchOrder();
        eightBytes();
        wavesAllNothingAtFirst();
        numbersOfWaves();
        moduloEight();
        greatestLessLeast();
        bestTurnTheFirst();
        matchTheFirstOfLikeOnes();
        allPounds();
        imageOfNothing();
        imageOfSixty();
        hourOfTwoBytes();
        batchesAsBits();
        theLastByte();
        bytesOfTheLatestImage();
        refusalsSoFar();
        tooWideIsNoRefusal();
        noSuchRefusals();
        Check.close();
    }

    private static TyreWorks stocked(String more) {
        return Check.stocked(PLAIN + more);
    }

    /** Cures the next tyre that is green, of whatever size, as its press is mounted. */
    private static void cured(TyreWorks x, int size, int hours) {
        x.build(size);
        Check.due("cure", x.cure(size) != NONE, true);
        x.hours(hours);
    }

    // ---- what lies, what could be

    private static void stock() {
        Check.says("How many of a PART lie in FIT LOTS; NONE if there is none such.");
        TyreWorks x = Check.told("mix m ripe 0 stale 3;part p of m takes 1 wide 1;part q of m takes 1 wide 1;");
        Check.due("no lots", x.stock(0), 0);
        x.mix(0, 200);
        x.cut(0, 0, 60);
        x.cut(0, 0, 7);
        x.cut(0, 1, 1);
        for (int hour = 0; hour < 6; hour++) {
            Check.due("p in " + hour, x.stock(0), hour <= 3 ? 67 : 0);
            Check.due("q in " + hour, x.stock(1), hour <= 3 ? 1 : 0);
            x.hours(1);
        }
        Check.noneSuch("stock", 2, x::stock);
        Check.noneSuch("stock", 0, new TyreWorks()::stock);
    }

    private static void counts() {
        Check.says("How many TYRES of a SIZE are of a STATE (0 .. 3); NONE if there are none such.");
        TyreWorks x = stocked("");
        x.mount(0, 0);
        for (int n = 0; n < 6; n++) {
            x.build(0);
        }
        x.cure(0);
        x.hours(5);
        x.cure(0);
        x.scrap(2);
        x.scrap(3);
        int[][] due = {{2, 1, 1, 2}, {0, 0, 0, 0}, {0, 0, 0, 0}};
        for (int size = 0; size < 3; size++) {
            int one = size;
            for (int state = 0; state < 4; state++) {
                Check.due("count(" + size + ", " + state + ")", x.count(size, state), due[size][state]);
            }
            Check.noneSuch("count, state", 4, state -> x.count(one, state));
        }
        for (int state = 0; state < 4; state++) {
            int one = state;
            Check.noneSuch("count, size", 3, size -> x.count(size, one));
        }
    }

    private static void couldBeBuilt() {
        Check.says("How many TYRES of a SIZE could be BUILT of FIT LOTS as they are, not asking for hours; "
                + "NONE if there is none such, or it has no NEEDS.");
        TyreWorks x = Check.told("mix m ripe 0 stale 9;mix n ripe 0 stale 999;"
                + "part p of m takes 1 wide 1;part q of n takes 1 wide 1;"
                + "size s cures 1;size t cures 1;size none cures 1;needs s 3 p;needs s 2 q;needs t 9 q;");
        Check.noneSuch("could", 3, x::could);
        Check.due("no NEEDS", x.could(2), NONE);
        Check.due("no lots", x.could(0), 0);
        x.mix(0, 99);
        x.mix(1, 99);
        x.cut(0, 0, 12);
        Check.due("without q", x.could(0), 0);
        x.cut(1, 1, 8);
        Check.due("12 by 3, 8 by 2", x.could(0), 4);
        Check.due("8 by 9", x.could(1), 0);
        x.cut(1, 1, 1);
        Check.due("12 by 3, 9 by 2", x.could(0), 4);
        Check.due("9 by 9", x.could(1), 1);
        x.build(0);
        Check.due("9 by 3, 7 by 2", x.could(0), 3);
        x.build(0);
        Check.due("6 by 3, 5 by 2", x.could(0), 2);
        Check.hoursTo(x, 9);
        Check.due("p stale in the next hour", x.could(0), 2);
        Check.hoursTo(x, 10);
        Check.due("p is stale", x.could(0), 0);
        Check.hoursTo(x, 9999);
        Check.due("q is stale", x.could(1), 0);
        TyreWorks y = Check.told(PLAIN + "change s t 99;");
        Check.hoursTo(y, 9998);
        y.mix(0, 99);
        y.cut(0, 0, 9);
        Check.due("build s", y.build(0), 0);
        Check.due("no hour is left", y.build(0), NONE);
        Check.due("not asking for hours", y.could(0), 3);
        Check.due("not asking for hours", y.could(1), 7);
    }

    private static void kthTyre() {
        Check.says("TRACE: the k-th TYRE, by numbers, with a BATCH in it; NONE if there is none such.");
        TyreWorks x = Check.told(PLAIN);
        for (int batch = 0; batch < 24; batch++) {
            x.mix(0, 9);
        }
        x.cut(23, 0, 3);
        x.cut(0, 0, 3);
        x.cut(23, 0, 2);
        Check.noneSuch("no tyres", 0, k -> x.trace(23, k));
        x.build(0);
        x.build(0);
        x.build(1);
        x.build(1);
        x.scrap(0);
        x.build(1);
        int[] of23 = {0, 1, 4};
        int[] of0 = {1, 2, 3};
        for (int k = 0; k < 3; k++) {
            Check.due("trace(23, " + k + ")", x.trace(23, k), of23[k]);
            Check.due("trace(0, " + k + ")", x.trace(0, k), of0[k]);
        }
        Check.noneSuch("of 23", 3, k -> x.trace(23, k));
        Check.noneSuch("of 0", 3, k -> x.trace(0, k));
        Check.noneSuch("of 1", 0, k -> x.trace(1, k));
        Check.noneSuch("no such batch", 24, batch -> x.trace(batch, 0));
    }

    private static void othersBits() {
        Check.says("BATCHES (bits) that are in some TYRE together with a BATCH (it left out); NONE if there is none such.");
        TyreWorks x = Check.told(PLAIN);
        for (int batch = 0; batch < 24; batch++) {
            x.mix(0, 9);
        }
        Check.due("no tyres", x.others(0), 0);
        x.cut(23, 0, 1);
        x.cut(0, 0, 2);
        x.cut(5, 0, 3);
        x.build(0);
        x.build(0);
        x.build(0);
        x.scrap(0);
        Check.due("of 23", x.others(23), 1);
        Check.due("of 0", x.others(0), 1 << 23 | 1 << 5);
        Check.due("of 5", x.others(5), 1);
        Check.due("of 1", x.others(1), 0);
        Check.noneSuch("others", 24, x::others);
        Check.noneSuch("others", 0, new TyreWorks()::others);
    }

    // ---- which are bad

    private static void badIfSomeLawHolds() {
        Check.says("A CURED TYRE is BAD, if some LAW's TEST holds.");
        for (int n = 0; n < 8; n++) {
            TyreWorks x = stocked((n & 1) == 0 ? "" : "bad when 1=2;".concat((n & 2) == 0 ? "" : "bad when all;")
                    .concat((n & 4) == 0 ? "" : "bad when 2=3;"));
            x.mount(0, 0);
            cured(x, 0, 5);
            boolean bad = (n & 3) == 3;
            Check.due("BAD", x.tyre(0, 8), bad ? 1 : 0);
            Check.due("by", x.law(0), bad ? 1 : NONE);
            Check.due("how many", x.bad(0), bad ? 1 : 0);
        }
    }

    private static void badOfAny() {
        Check.says("How many CURED TYRES of a SIZE (NONE: any) are BAD; NONE if there is none such.");
        TyreWorks x = stocked("bad when worn>0;");
        x.mount(0, 0);
        x.mount(1, 1);
        Check.due("none", x.bad(NONE), 0);
        for (int n = 0; n < 4; n++) {
            cured(x, 0, 5);
            if (n > 1) {
                cured(x, 1, 2);
            }
        }
        Check.due("of s", x.bad(0), 3);
        Check.due("of t", x.bad(1), 1);
        Check.due("of the third", x.bad(2), 0);
        Check.due("of any", x.bad(NONE), 4);
        x.scrap(1);
        Check.due("of s", x.bad(0), 2);
        Check.due("of any", x.bad(-1), 3);
        for (int none : new int[] {-2, 3, 4, Integer.MIN_VALUE, Integer.MAX_VALUE}) {
            Check.due("of " + none, x.bad(none), NONE);
        }
    }

    private static void firstLaw() {
        Check.says("The first LAW by which a CURED TYRE is BAD; NONE without, or if there is none such.");
        TyreWorks x = stocked("bad when worn=7;bad when worn=1;bad when worn<2;bad when 1=2;bad when worn=3;bad when worn=1;"
                + "bad when worn=4;bad when worn=5;");
        x.mount(0, 0);
        x.build(0);
        Check.due("green", x.law(0), NONE);
        x.cure(0);
        Check.due("in a press", x.law(0), NONE);
        x.hours(5);
        for (int n = 1; n < 8; n++) {
            cured(x, 0, 5);
        }
        int[] due = {2, 1, NONE, 4, 6, 7, NONE, 0};
        for (int tyre = 0; tyre < 8; tyre++) {
            Check.due("law(" + tyre + ")", x.law(tyre), due[tyre]);
        }
        x.scrap(0);
        Check.due("scrapped", x.law(0), NONE);
        Check.noneSuch("law", 8, x::law);
    }

    // ---- sheets

    private static void sheets(TyreWorks x, int due, int waste, int... parts) {
        Check.bytes(x, parts);
        Check.due("sheets of " + Arrays.toString(parts), x.sheets(), due);
        Check.due("waste of " + Arrays.toString(parts), x.waste(), waste);
        Check.due("the tape goes", x.end(1), false);
    }

    private static void toldPartsTwelveAtMost() {
        Check.says("the tape (it goes) as bytes, the PARTS' numbers (1 to 12)");
        TyreWorks x = Check.widths("sheet 12 splice 0;", 1, 6, 7);
        sheets(x, NONE, NONE);
        Check.due("none told", x.status(5), 1);
        sheets(x, 1, 11, 0);
        sheets(x, 1, 0, 0, 0, 0, 0, 0, 0, 0, 0, 0, 0, 0, 0);
        sheets(x, 12, 12 * 5, 2, 2, 2, 2, 2, 2, 2, 2, 2, 2, 2, 2);
        Check.due("one to twelve", x.status(5), 1);
        sheets(x, NONE, NONE, 0, 0, 0, 0, 0, 0, 0, 0, 0, 0, 0, 0, 0);
        Check.due("thirteen", x.status(5), 2);
        Check.bytes(x, new int[1600]);
        Check.due("1600", x.sheets(), NONE);
        Check.due("1600", x.status(5), 3);
    }

    private static void eachOnce() {
        Check.says("told PARTS (12 at most), each once");
        TyreWorks x = Check.widths("sheet 10 splice 0;", 5, 3);
        sheets(x, 1, 5, 0);
        sheets(x, 1, 0, 0, 0);
        sheets(x, 2, 5, 0, 0, 0);
        sheets(x, 2, 4, 0, 0, 1, 1);
        sheets(x, 2, 1, 0, 1, 0, 1, 1);
    }

    private static void asWideAsTold() {
        Check.says("a sheet is as wide as told");
        for (int wide = 30; wide <= 400; wide += 37) {
            TyreWorks x = Check.widths("sheet " + wide + " splice 0;", 10, wide % 10 + 1);
            int[] parts = new int[Math.min(12, wide / 10)];
            sheets(x, 1, wide - 10 * parts.length, parts);
            if (parts.length < 12) {
                int[] more = Arrays.copyOf(parts, parts.length + 1);
                more[parts.length] = 1;
                sheets(x, 2, 2 * wide - 10 * parts.length - wide % 10 - 1, more);
            }
        }
        sheets(Check.widths("sheet 1 splice 9;", 1), 2, 0, 0, 0);
        sheets(Check.widths("sheet 400 splice 9;", 99), 1, 400 - 4 * 99 + 99, 0, 0, 0);
        sheets(Check.widths("sheet 400 splice 0;", 99), 1, 4, 0, 0, 0, 0);
        sheets(Check.widths("sheet 400 splice 1;", 99), 1, 4, 0, 0, 0, 0);
        sheets(Check.widths("sheet 400 splice 2;", 99), 2, 404, 0, 0, 0, 0);
    }

    private static void spliceBetweenEachTwo() {
        Check.says("PARTS side by side on one need their widths and splice between each two");
        sheets(Check.widths("sheet 10 splice 9;", 10), 1, 0, 0);
        sheets(Check.widths("sheet 20 splice 2;", 9, 10), 1, 2, 0, 0);
        sheets(Check.widths("sheet 20 splice 2;", 9, 10), 2, 21, 0, 1);
        sheets(Check.widths("sheet 34 splice 2;", 10), 1, 4, 0, 0, 0);
        sheets(Check.widths("sheet 33 splice 2;", 10), 2, 36, 0, 0, 0);
        sheets(Check.widths("sheet 23 splice 1;", 1), 1, 11, 0, 0, 0, 0, 0, 0, 0, 0, 0, 0, 0, 0);
        sheets(Check.widths("sheet 22 splice 1;", 1), 2, 32, 0, 0, 0, 0, 0, 0, 0, 0, 0, 0, 0, 0);
    }

    private static void tooWideOrNoneSuch() {
        Check.says("the fewest sheets; NONE if one is too wide, or it is none such.");
        TyreWorks x = Check.widths("sheet 40 splice 0;", 40, 41);
        sheets(x, 1, 0, 0);
        sheets(x, NONE, NONE, 1);
        sheets(x, NONE, NONE, 0, 1);
        sheets(x, NONE, NONE, 1, 0, 0);
        Check.due("too wide", x.status(5), 0);
        sheets(x, NONE, NONE, 2);
        sheets(x, NONE, NONE, 0, 0, 255);
        sheets(x, NONE, NONE, 128);
        Check.due("none such", x.status(5), 3);
        sheets(new TyreWorks(), NONE, NONE, 0);
        TyreWorks y = Check.widths("sheet 20 splice 0;", 11, 9, 8, 12, 10);
        sheets(y, 3, 0, 0, 1, 2, 3, 4, 4);
        sheets(y, 3, 10, 4, 1, 2, 0, 3);
    }

    private static void wasteOfTheLatest() {
        Check.says("WASTE of the latest sheets(); NONE ahead of any, or if that was NONE.");
        TyreWorks x = Check.widths("sheet 40 splice 0;", 30, 41);
        Check.due("ahead of any", x.waste(), NONE);
        Check.bytes(x, 0);
        x.sheets();
        Check.due("10", x.waste(), 10);
        Check.bytes(x, 0, 0);
        Check.due("of the latest still", x.waste(), 10);
        x.sheets();
        Check.due("20", x.waste(), 20);
        Check.bytes(x, 1);
        x.sheets();
        Check.due("too wide", x.waste(), NONE);
        Check.bytes(x, 0);
        x.sheets();
        Check.due("10", x.waste(), 10);
        x.sheets();
        Check.due("none such", x.waste(), NONE);
        Check.says("WASTE: sheet times these less all widths.");
        sheets(Check.widths("sheet 40 splice 9;", 30), 3, 30, 0, 0, 0);
        sheets(Check.widths("sheet 80 splice 9;", 30), 2, 70, 0, 0, 0);
    }

    // ---- the least change

    private static void route(TyreWorks x, int hours, int... sizes) {
        Check.due("hours", x.route(NONE), hours);
        for (int k = 0; k < sizes.length; k++) {
            Check.due("the " + k + "th", x.route(k), sizes[k]);
        }
        for (int k = sizes.length; k < 9; k++) {
            Check.due("the " + k + "th", x.route(k), NONE);
        }
    }

    private static void routeWithoutOrders() {
        Check.says("The least change: hours (k NONE; 0 without ORDERS)");
        route(new TyreWorks(), 0);
        route(Check.told("size a cures 1;size b cures 1;change a b 9;"), 0);
        TyreWorks x = Check.told(PLAIN + "order s 1 by 1;order t 1 by 1;order none 1 by 1;change s t 50;change t s 50;");
        route(x, 2, 0, 2, 1);
        Check.works(x, PLAIN + "order t 1 by 1;");
        route(x, 0, 1);
        Check.works(x, PLAIN);
        route(x, 0);
    }

    private static void kthSizeOfTheRoute() {
        Check.says("or the k-th SIZE; NONE if there is none such.");
        TyreWorks x = Check.told("size a cures 1;size b cures 1;size c cures 1;size d cures 1;size e cures 1;size f cures 1;"
                + "order f 1 by 1;order a 1 by 1;order e 1 by 1;order b 1 by 1;order d 1 by 1;order c 1 by 1;order a 9 by 1;");
        route(x, 5, 0, 1, 2, 3, 4, 5);
        Check.noneSuch("route", 6, k -> k == NONE ? NONE : x.route(k));
    }

    private static void leastOnesFirstByNumbers() {
        Check.says("of the least ones the first by numbers.");
        StringBuilder sizes = new StringBuilder();
        StringBuilder changes = new StringBuilder();
        for (char c = 'a'; c < 'g'; c++) {
            sizes.append("size ").append(c).append(" cures 1;");
            changes.append("order ").append(c).append(" 1 by 1;");
            for (char d = 'a'; d < 'g'; d++) {
                if (c != d) {
                    changes.append("change ").append(c).append(" ").append(d).append(d == c - 1 ? " 3;" : " 4;");
                }
            }
        }
        route(Check.told(sizes.toString() + changes), 15, 5, 4, 3, 2, 1, 0);
        String three = "size a cures 1;size b cures 1;size c cures 1;order a 1 by 1;order b 1 by 1;order c 1 by 1;";
        route(Check.told(three), 2, 0, 1, 2);
        route(Check.told(three + "change a b 2;"), 2, 0, 2, 1);
        route(Check.told(three + "change a b 2;change a c 2;"), 2, 1, 2, 0);
        route(Check.told(three + "change a b 2;change a c 2;change b c 2;"), 2, 2, 1, 0);
    }

    private static void fromTheSizeBuiltAhead() {
        Check.says("changes added up from the SIZE that was BUILT ahead on (from nothing: 0)");
        TyreWorks x = stocked("order s 1 by 1;order t 1 by 1;change t s 3;change s t 4;change none s 20;change none t 30;");
        route(x, 3, 1, 0);
        x.build(0);
        route(x, 4, 0, 1);
        x.build(1);
        route(x, 3, 1, 0);
        TyreWorks y = Check.told("mix m ripe 0 stale 9;part p of m takes 1 wide 1;size a cures 1;size b cures 1;size c cures 1;"
                + "needs c 1 p;order a 1 by 1;order b 1 by 1;change c a 9;change c b 0;change a b 2;change b a 4;");
        route(y, 2, 0, 1);
        y.mix(0, 9);
        y.cut(0, 0, 9);
        y.build(2);
        route(y, 4, 1, 0);
    }

    // ---- presses that starve

    private static void starvesFromNow() {
        Check.says("STARVES: from now, nothing being BUILT or MOUNTED");
        TyreWorks x = stocked("order s 9 by 9;");
        x.hours(3);
        Check.due("without a mould", x.starves(0), 3);
        x.mount(0, 0);
        Check.due("without a tyre", x.starves(0), 3);
        x.build(0);
        Check.due("one tyre", x.starves(0), 4 + 5);
        Check.due("the other one has no mould", x.starves(1), 4);
        x.cure(0);
        Check.due("it cures", x.starves(0), 4 + 5);
        Check.hoursTo(x, 8);
        Check.due("it cures", x.starves(0), 9);
        Check.hoursTo(x, 9);
        Check.due("now", x.starves(0), 9);
        Check.hoursTo(x, 12);
        Check.due("not in hours gone by", x.starves(0), 12);
        Check.due("nothing was done", x.has(10) + x.has(11), 2);
    }

    private static void starvesWheneverFree() {
        Check.says("each PRESS, by numbers, whenever it is free CURING if it can (as above): "
                + "the first HOUR in which it is free and can't.");
        TyreWorks x = stocked("rests 2 8;");
        x.mount(0, 0);
        x.mount(1, 2);
        x.build(0);
        x.build(0);
        x.build(0);
        x.build(0);
        Check.due("both cure at once, 4 to 9, then 9 to 14", x.starves(0), 14);
        Check.due("the fourth one rests 5 only", x.starves(1), 14);
        x.hours(1);
        Check.due("5 to 10, 10 to 15", x.starves(0), 15);
        x.hours(2);
        Check.due("7 to 12, then the fourth has rested 8", x.starves(0), 17);
        Check.due("the third one would rest 9", x.starves(1), 12);
        TyreWorks y = stocked("");
        y.mount(0, 2);
        for (int n = 0; n < 5; n++) {
            y.build(0);
        }
        Check.due("its mould lives two", y.starves(0), 15);
        y.cure(0);
        Check.due("of which it has had one", y.starves(0), 15);
        y.hours(5);
        y.cure(0);
        Check.due("of which it has had both", y.starves(0), 15);
        y.hours(5);
        Check.due("now", y.starves(0), 15);
        y.clean(2);
        Check.due("two since it was clean", y.starves(0), 25);
        TyreWorks z = stocked("rests 3 999;order s 1 by 99;");
        z.mount(0, 0);
        z.build(0);
        Check.due("the tyre has not rested yet", z.starves(0), 1);
        Check.due("but it is cured when it has", z.when(0), 1 + 3 + 5);
    }

    private static void starvesByTheLastHour() {
        Check.says("STARVES: the HOUR in which a PRESS does");
        TyreWorks x = Check.told(PLAIN);
        Check.hoursTo(x, 9990);
        x.mix(0, 99);
        x.cut(0, 0, 9);
        x.mount(0, 0);
        x.build(0);
        Check.hoursTo(x, 9994);
        Check.due("in 9999", x.starves(0), 9999);
        x.hours(1);
        Check.due("no HOUR is 10000", x.starves(0), NONE);
        Check.due("without a mould", x.starves(1), 9995);
        Check.hoursTo(x, 9999);
        Check.due("without a mould", x.starves(1), 9999);
    }

    private static void noSuchPressStarves() {
        Check.says("STARVES: the HOUR in which a PRESS does; NONE if there is none such.");
        TyreWorks x = stocked("");
        Check.noneSuch("starves", 2, x::starves);
        Check.noneSuch("starves", 0, new TyreWorks()::starves);
    }

    // ---- orders that are kept

    private static void curedInThatHourCounts() {
        Check.says("CURED in that hour counts.");
        for (int by = 4; by < 9; by++) {
            TyreWorks x = stocked("order s 1 by " + by + ";");
            x.mount(0, 0);
            x.build(0);
            for (int hour = 1; hour < 6; hour++) {
                Check.due("by " + by + " in " + hour, x.kept(0), by >= 6 ? 1 : 0);
                Check.due("when in " + hour, x.when(0), 6);
                x.cure(0);
                x.hours(1);
            }
            Check.due("by " + by + " in 6", x.kept(0), by >= 6 ? 1 : 0);
            x.hours(10);
            Check.due("by " + by + " in 16", x.kept(0), by >= 6 ? 1 : 0);
            Check.due("now", x.when(0), 16);
        }
    }

    private static void ordersAheadOfItForThatSize() {
        Check.says("as it and all ORDERS ahead of it for that SIZE ask together");
        TyreWorks x = stocked("order s 1 by 99;order t 2 by 99;order s 2 by 99;order t 1 by 0;order s 1 by 99;");
        x.mount(0, 0);
        x.mount(1, 1);
        for (int n = 0; n < 3; n++) {
            x.build(0);
        }
        x.build(1);
        x.build(1);
        int[] kept = {1, 1, 1, 0, 0};
        int[] when = {6 + 5, 6 + 4, 6 + 15, NONE, NONE};
        for (int order = 0; order < 5; order++) {
            Check.due("kept(" + order + ")", x.kept(order), kept[order]);
            Check.due("when(" + order + ")", x.when(order), when[order]);
        }
    }

    private static void notScrappedBadOnesToo() {
        Check.says("are CURED (not SCRAPPED; BAD ones too)");
        TyreWorks x = stocked("order s 1 by 99;order s 1 by 99;bad when all;");
        x.mount(0, 0);
        x.build(0);
        x.build(0);
        x.cure(0);
        x.hours(5);
        Check.due("BAD", x.tyre(0, 8), 1);
        Check.due("a BAD one counts", x.kept(0), 1);
        Check.due("a BAD one counts", x.when(0), 7);
        Check.due("with one to come", x.kept(1), 1);
        Check.due("with one to come", x.when(1), 12);
        x.scrap(0);
        Check.due("the one to come", x.kept(0), 1);
        Check.due("the one to come", x.when(0), 12);
        Check.due("a SCRAPPED one does not count", x.kept(1), 0);
        Check.due("a SCRAPPED one does not count", x.when(1), NONE);
        x.scrap(1);
        Check.due("nor a green one that is SCRAPPED", x.kept(0), 0);
        Check.due("nor a green one that is SCRAPPED", x.when(0), NONE);
    }

    private static void hoursGoneBy() {
        Check.says("(hours gone by count as they were)");
        TyreWorks x = stocked("order s 1 by 5;order s 1 by 20;order s 1 by 21;order t 1 by 0;");
        x.mount(0, 0);
        for (int n = 0; n < 3; n++) {
            x.build(0);
        }
        for (int n = 0; n < 3; n++) {
            x.cure(0);
            x.hours(5 + n);
        }
        Check.due("cured in 8, 13 and 19", x.count(0, 2), 3);
        Check.due("HOUR", x.has(7), 21);
        Check.hoursTo(x, 500);
        Check.due("none by 5", x.kept(0), 0);
        Check.due("two by 20", x.kept(1), 1);
        Check.due("three by 21", x.kept(2), 1);
        Check.due("none of t by 0", x.kept(3), 0);
    }

    private static void whenNowOrNever() {
        Check.says("(HOUR, if they are now); NONE if never so up to 9999");
        TyreWorks x = stocked("order s 1 by 0;order s 1 by 0;");
        x.mount(0, 0);
        Check.due("never", x.when(0), NONE);
        x.build(0);
        Check.due("in five hours", x.when(0), 6);
        x.cure(0);
        Check.hoursTo(x, 6);
        Check.due("now", x.when(0), 6);
        Check.hoursTo(x, 777);
        Check.due("now", x.when(0), 777);
        Check.due("never two", x.when(1), NONE);
        TyreWorks y = Check.told(PLAIN + "order s 1 by 9999;order s 1 by 9999;");
        Check.hoursTo(y, 9987);
        y.mix(0, 99);
        y.cut(0, 0, 9);
        y.mount(0, 0);
        y.build(0);
        y.build(0);
        Check.due("9994", y.when(0), 9994);
        Check.due("9999", y.when(1), 9999);
        Check.due("kept in 9999", y.kept(1), 1);
        y.hours(1);
        Check.due("9995", y.when(0), 9995);
        Check.due("10000 is never", y.when(1), NONE);
        Check.due("not kept", y.kept(1), 0);
    }

    private static void noSuchOrder() {
        Check.says("KEPT: 1, 0; NONE if there is no such ORDER.");
        TyreWorks x = stocked("order s 1 by 9;order t 1 by 9;");
        Check.noneSuch("kept", 2, x::kept);
        Check.noneSuch("when", 2, x::when);
        Check.noneSuch("kept", 0, new TyreWorks()::kept);
        Check.noneSuch("when", 0, new TyreWorks()::when);
    }

    // ---- waves

    private static boolean wave(TyreWorks x, int tyre, int... bytes) {
        Check.bytes(x, bytes);
        return x.wave(tyre);
    }

    private static void eightBytes() {
        Check.says("true; false if it has not 8 bytes, or there is none such.");
        TyreWorks x = stocked("");
        x.build(0);
        Check.due("of the tyre", wave(x, 0, 9, 0, 0, 0, 0, 0, 0, 0), true);
        Check.due("of the wheel", wave(x, NONE, 0, 0, 5, 0, 0, 0, 0, 0), true);
        for (int n = 0; n < 41; n++) {
            int bytes = n;
            if (n != 8) {
                Check.refused(x, n + " bytes of a tyre", 5, () -> wave(x, 0, new int[bytes]));
                Check.refused(x, n + " bytes of the wheel", 5, () -> wave(x, NONE, new int[bytes]));
            }
            Check.due("the tape goes", x.end(1), false);
        }
        for (int tyre : new int[] {1, -2, 60, Integer.MIN_VALUE, Integer.MAX_VALUE}) {
            Check.refused(x, "no such tyre " + tyre, 5, () -> wave(x, tyre, new int[8]));
            Check.due("the tape goes", x.end(1), false);
        }
        Check.due("they stay", x.spread(0, 0), 9);
        Check.due("they stay", x.spread(0, 2), 14);
    }

    private static void wavesAllNothingAtFirst() {
        Check.says("of a TYRE (all 0 at first); THE WHEEL has one.");
        TyreWorks x = stocked("");
        x.build(0);
        for (int r = 0; r < 8; r++) {
            Check.due("both 0", x.spread(0, r), 0);
        }
        wave(x, NONE, 3, 1, 4, 1, 5, 9, 2, 6);
        for (int r = 0; r < 8; r++) {
            Check.due("the wheel's alone", x.spread(0, r), 8);
        }
        wave(x, 0, 200, 0, 0, 0, 0, 0, 0, 0);
        Check.works(x, PLAIN);
        x.mix(0, 9);
        x.cut(0, 0, 9);
        x.build(0);
        Check.due("a new tyre's is 0 again", x.spread(0, 0), 8);
    }

    private static void numbersOfWaves() {
        Check.says("A WAVE is 8 numbers, 0 .. 255, of a TYRE");
        TyreWorks x = stocked("");
        x.build(0);
        for (int number : new int[] {0, 1, 127, 128, 200, 254, 255}) {
            wave(x, 0, 0, 0, 0, number, 0, 0, 0, 0);
            Check.due("of the tyre", x.spread(0, 0), number);
            wave(x, NONE, 0, 0, 0, number, 0, 0, 0, 0);
            Check.due("of both", x.spread(0, 0), 2 * number);
            wave(x, 0, 255, 255, 255, 255 - number, 255, 255, 255, 255);
            Check.due("against each other", x.spread(0, 0), 0);
            wave(x, NONE, 0, 0, 0, 0, 0, 0, 0, 0);
        }
    }

    private static void moduloEight() {
        Check.says("TURNED by r, 0 .. 7: place i of the TYRE comes to place (i + r) modulo 8 of THE WHEEL");
        TyreWorks x = stocked("");
        x.build(0);
        for (int i = 0; i < 8; i++) {
            int[] tyre = new int[8];
            tyre[i] = 100;
            wave(x, 0, tyre);
            for (int j = 0; j < 8; j++) {
                int[] wheel = {100, 100, 100, 100, 100, 100, 100, 100};
                wheel[j] = 0;
                wave(x, NONE, wheel);
                for (int r = 0; r < 8; r++) {
                    Check.due(i + " turned by " + r + " to " + j, x.spread(0, r), (i + r) % 8 == j ? 0 : 200);
                }
                Check.due("the best turn", x.turn(0), (j - i + 8) % 8);
            }
        }
        for (int r : new int[] {-1, -2, -8, 8, 9, 15, 16, Integer.MIN_VALUE, Integer.MAX_VALUE}) {
            Check.due("r " + r, x.spread(0, r), NONE);
        }
    }

    private static void greatestLessLeast() {
        Check.says("SPREAD: the greatest sum of both less the least.");
        TyreWorks x = stocked("");
        x.build(0);
        wave(x, 0, 0, 0, 0, 0, 0, 0, 0, 255);
        wave(x, NONE, 0, 0, 0, 0, 0, 0, 0, 255);
        Check.due("510 and 0", x.spread(0, 0), 510);
        Check.due("255 and 0", x.spread(0, 1), 255);
        wave(x, 0, 7, 7, 7, 7, 7, 7, 7, 7);
        wave(x, NONE, 9, 9, 9, 9, 9, 9, 9, 9);
        Check.due("16 and 16", x.spread(0, 5), 0);
        wave(x, 0, 10, 20, 30, 40, 50, 60, 70, 80);
        wave(x, NONE, 80, 70, 60, 50, 40, 30, 20, 10);
        Check.due("90 and 90", x.spread(0, 0), 0);
        Check.due("20 and 100", x.spread(0, 7), 80);
        Check.noneSuch("spread", 1, tyre -> x.spread(tyre, 0));
    }

    private static void bestTurnTheFirst() {
        Check.says("THE BEST TURN: of the least SPREADS the first one.");
        TyreWorks x = stocked("");
        x.build(0);
        Check.due("all alike", x.turn(0), 0);
        wave(x, NONE, 0, 9, 0, 9, 0, 9, 0, 9);
        wave(x, 0, 0, 9, 0, 9, 0, 9, 0, 9);
        Check.due("1, 3, 5, 7 are alike", x.turn(0), 1);
        wave(x, 0, 9, 0, 9, 0, 9, 0, 9, 0);
        Check.due("0, 2, 4, 6 are alike", x.turn(0), 0);
        wave(x, NONE, 9, 9, 9, 0, 9, 9, 9, 0);
        wave(x, 0, 9, 0, 0, 0, 9, 0, 0, 0);
        Check.due("3 and 7 are alike", x.turn(0), 3);
        wave(x, NONE, 9, 9, 9, 9, 9, 9, 9, 0);
        wave(x, 0, 9, 0, 0, 0, 0, 0, 0, 0);
        Check.due("7 alone", x.turn(0), 7);
        Check.noneSuch("turn", 1, x::turn);
        Check.noneSuch("turn", 0, new TyreWorks()::turn);
    }

    private static void matchTheFirstOfLikeOnes() {
        Check.says("Of CURED TYRES that are not BAD the one whose BEST TURN has the least SPREAD, "
                + "the first of like ones; NONE without.");
        TyreWorks x = stocked("bad when worn=1;");
        Check.due("no tyres", x.match(), NONE);
        Check.due("of a new object", new TyreWorks().match(), NONE);
        x.mount(1, 1);
        for (int n = 0; n < 6; n++) {
            x.build(1);
        }
        wave(x, NONE, 0, 0, 99, 0, 0, 0, 0, 0);
        int[] heights = {50, 99, 60, 60, 30, 99};
        for (int t = 0; t < 6; t++) {
            int h = heights[t];
            wave(x, t, h, h, h, h, h, h, 0, h);
        }
        Check.due("none cured", x.match(), NONE);
        int[] due = {0, 0, 2, 2, 2};
        for (int t = 0; t < 5; t++) {
            Check.due("cure", x.cure(1), t);
            Check.due("in a press", x.match(), t == 0 ? NONE : due[t - 1]);
            x.hours(2);
            Check.due("when " + t + " is cured", x.match(), due[t]);
        }
        Check.due("1 is BAD, 5 is green", x.law(1) + x.tyre(5, 1), 0);
        x.scrap(2);
        Check.due("the other one of 60", x.match(), 3);
        x.scrap(3);
        Check.due("50", x.match(), 0);
        x.scrap(0);
        Check.due("30", x.match(), 4);
        x.scrap(4);
        Check.due("a BAD one is none", x.match(), NONE);
    }

    // ---- pounds, images, refusals

    private static void allPounds() {
        Check.says("4 CURED, 5 SCRAPPED, 6 all together. NONE for others.");
        TyreWorks x = Check.told("mix m ripe 0 stale 3;mix n ripe 0 stale 999;"
                + "part p of m takes 7 wide 1;part q of n takes 5 wide 1;"
                + "size s cures 3;needs s 3 p;needs s 2 q;press ra;mould u of s lives 9;");
        Check.noneSuch("pounds", 7, x::pounds);
        x.mix(0, 500);
        x.mix(1, 300);
        x.cut(0, 0, 30);
        x.cut(1, 1, 30);
        for (int n = 0; n < 4; n++) {
            Check.due("build", x.build(0), n);
        }
        x.mount(0, 0);
        x.cure(0);
        x.hours(3);
        x.cure(0);
        x.scrap(3);
        int[] due = {290 + 150, 30 * 12 - 4 * 31, 31, 31, 31, 31, 800};
        for (int what = 0; what < 7; what++) {
            Check.due("pounds(" + what + ")", x.pounds(what), due[what]);
        }
        x.hours(900);
        Check.due("stale ones count", x.pounds(6), 800);
    }

    private static int[] image(TyreWorks x) {
        int[] bytes = new int[x.image()];
        for (int k = 0; k < bytes.length; k++) {
            bytes[k] = x.octet(k);
        }
        return bytes;
    }

    private static void image(TyreWorks x, int... due) {
        Check.due(Arrays.toString(due), Arrays.equals(image(x), due), true);
    }

    private static void imageOfNothing() {
        Check.says("AN IMAGE is of the TYRES alone: HOUR (two bytes, the higher first); how many");
        image(new TyreWorks(), 0, 0, 0, 47 * 27 % 241);
        TyreWorks x = stocked("");
        x.hours(7);
        image(x, 0, 7, 0, (47 * 27 + 7 * 3) % 241);
        Check.due("how many bytes", x.image(), 4);
    }

    private static void imageOfSixty() {
        Check.says("of each its SIZE, its STATE (0 GREEN, 1 IN a PRESS, 2 CURED, 3 SCRAPPED), its BATCHES");
        TyreWorks x = stocked("");
        x.mount(0, 0);
        x.mount(1, 1);
        for (int n = 0; n < 60; n++) {
            x.build(n == 7 ? 0 : 1);
        }
        x.cure(1);
        x.hours(2);
        x.cure(1);
        x.cure(0);
        x.scrap(59);
        Check.due("how many bytes", x.image(), 3 + 60 * 5 + 1);
        int[] bytes = image(x);
        Check.due("how many tyres", bytes[2], 60);
        for (int t = 0; t < 60; t++) {
            Check.due("SIZE of " + t, bytes[3 + 5 * t], t == 7 ? 0 : 1);
            Check.due("STATE of " + t, bytes[4 + 5 * t], t == 0 ? 2 : t == 1 || t == 7 ? 1 : t == 59 ? 3 : 0);
            Check.due("BATCHES of " + t, bytes[5 + 5 * t] + bytes[6 + 5 * t] + bytes[7 + 5 * t] * 9, 9);
        }
    }

    private static void hourOfTwoBytes() {
        Check.says("HOUR (two bytes, the higher first)");
        for (int hour : new int[] {1, 255, 256, 257, 511, 512, 4095, 9998, 9999}) {
            TyreWorks x = new TyreWorks();
            Check.hoursTo(x, hour);
            int[] bytes = image(x);
            Check.due("the higher of " + hour, bytes[0], hour / 256);
            Check.due("the lower of " + hour, bytes[1], hour % 256);
        }
    }

    private static void batchesAsBits() {
        Check.says("its BATCHES (three bytes, as bits)");
        for (int batch = 0; batch < 24; batch++) {
            TyreWorks x = Check.told(PLAIN);
            for (int n = 0; n < 24; n++) {
                x.mix(0, 9);
            }
            x.cut(batch, 0, 1);
            x.cut((batch + 9) % 24, 0, 1);
            x.build(0);
            int bits = 1 << batch | 1 << (batch + 9) % 24;
            Check.due("bits", x.tyre(0, 3), bits);
            int[] bytes = image(x);
            Check.due("three bytes of " + bits, bytes[5] << 16 | bytes[6] << 8 | bytes[7], bits);
        }
    }

    private static void theLastByte() {
        Check.says("last a byte: all ahead from 47 on, c = (3 c + it) mod 241.");
        TyreWorks x = stocked("");
        for (int n = 0; n < 30; n++) {
            int[] bytes = image(x);
            int c = 47;
            for (int k = 0; k < bytes.length - 1; k++) {
                c = (3 * c + bytes[k]) % 241;
            }
            Check.due("the last byte", bytes[bytes.length - 1], c);
            x.build(n % 2);
        }
    }

    private static void bytesOfTheLatestImage() {
        Check.says("Byte k of the latest image(); NONE if there is none such.");
        TyreWorks x = stocked("");
        Check.noneSuch("octet ahead of any", 0, x::octet);
        x.build(0);
        Check.due("image", x.image(), 9);
        Check.noneSuch("octet", 9, x::octet);
        x.build(0);
        Check.due("one tyre still", x.octet(2), 1);
        Check.noneSuch("octet still", 9, x::octet);
        Check.due("image", x.image(), 14);
        Check.due("two tyres now", x.octet(2), 2);
        Check.noneSuch("octet", 14, x::octet);
        Check.works(x, "");
        Check.due("the latest image", x.octet(2), 2);
        Check.due("image", x.image(), 4);
        Check.noneSuch("octet", 4, x::octet);
    }

    private static void refusalsSoFar() {
        Check.says("REFUSALS so far: 0 of feed() and end(), 1 of works(), 2 of mix(), cut(), build(), "
                + "3 of mount(), cure(), clean(), scrap(), 4 of hours(), goOn(), 5 of sheets() that are none such");
        TyreWorks x = new TyreWorks();
        for (int n = 0; n < 80; n++) {
            x.feed(0, 0, 0, 0, 0);
        }
        Check.refused(x, "feed", 0, () -> x.feed(0, 0, 0, 0, 0));
        Check.refused(x, "end", 0, () -> x.end(1601));
        Check.refused(x, "works", 1, x::works);
        Check.refused(x, "mix", 2, () -> x.mix(0, 1));
        Check.refused(x, "cut", 2, () -> x.cut(0, 0, 1));
        Check.refused(x, "build", 2, () -> x.build(0));
        Check.refused(x, "mount", 3, () -> x.mount(0, 0));
        Check.refused(x, "cure", 3, () -> x.cure(0));
        Check.refused(x, "clean", 3, () -> x.clean(0));
        Check.refused(x, "scrap", 3, () -> x.scrap(0));
        Check.refused(x, "hours", 4, () -> x.hours(0));
        Check.refused(x, "goOn", 4, () -> x.goOn(0));
        Check.refused(x, "sheets", 5, x::sheets);
        Check.refused(x, "wave", 5, () -> x.wave(NONE));
        int[] due = {2, 1, 3, 4, 2, 2};
        for (int kind = 0; kind < 6; kind++) {
            Check.due("refusals of kind " + kind, x.status(kind), due[kind]);
        }
    }

    private static void tooWideIsNoRefusal() {
        Check.says("5 of sheets() that are none such (too wide is none) and wave().");
        TyreWorks x = Check.widths("sheet 5 splice 0;", 5, 6);
        sheets(x, NONE, NONE, 1);
        sheets(x, NONE, NONE, 0, 1);
        Check.due("too wide is none", x.status(5), 0);
        sheets(x, NONE, NONE, 2);
        Check.due("no such part is one", x.status(5), 1);
        sheets(x, NONE, NONE);
        Check.due("no parts are one", x.status(5), 2);
        wave(x, NONE, 1);
        Check.due("a wave of one byte is one", x.status(5), 3);
    }

    private static void noSuchRefusals() {
        Check.says("and wave(). NONE for others.");
        Check.noneSuch("status", 6, new TyreWorks()::status);
        Check.noneSuch("status", 6, stocked("")::status);
    }
}
