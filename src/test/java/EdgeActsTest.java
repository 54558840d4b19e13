/** Terms II and promises 15 to 23, sentence by sentence, where one names a boundary: what is done in the works. */
public final class EdgeActsTest {
    private static final int NONE = TyreWorks.NONE;
    private static final String PLAIN = "mix m ripe 0 stale 999;part p of m takes 1 wide 1;size s cures 5;size t cures 2;"
            + "size none cures 1;needs s 2 p;needs t 1 p;press ra;press rb;mould ms of s lives 2;mould mt of t lives 3;"
            + "mould mx of s lives 1;";

    public static void main(String[] args) {
        hourAtFirst();
        twentyFourBatches();
        poundsOfABatch();
        fitFromRipeToStale();
        partsOfACut();
        ofAFitBatchOfItsMix();
        asManyPoundsAsTheyTake();
        fortyLots();
        aLotIsFitAsItsBatch();
        firstLotsFirst();
        ifSomeLack();
        withoutNeeds();
        ifThereAreSixtyTyres();
        hourGoesOnByTheChange();
        noBuildBeyondTheLastHour();
        builtInThatLaterHour();
        mouldsThatAreInNoPress();
        pressesThatDoNotCure();
        whatWasInItComesOut();
        fewerCuresThanItLives();
        theFirstGreenTyreOfItsSize();
        restsWithin();
        asManyHoursAsItsSizeCures();
        cleaned();
        scrapped();
        hoursToTheLast();
        curedInThem();
        goOnForHours();
        goesOnOrSomewhatMore();
        eachPressByNumbers();
        theFirstOrderThatCanBeBuilt();
        endsAheadOfThat();
        Check.close();
    }

    private static TyreWorks stocked(String more) {
        return Check.stocked(PLAIN + more);
    }

    // ---- batches and lots

    private static void hourAtFirst() {
        Check.says("HOUR is 0 at first.");
        Check.due("of a new object", new TyreWorks().has(7), 0);
        Check.due("of told works", Check.told(PLAIN).has(7), 0);
    }

    private static void twentyFourBatches() {
        Check.says("A BATCH of a MIX (24 at most) has pounds (1 .. 999)");
        TyreWorks x = Check.told("mix m ripe 0 stale 9;mix n ripe 0 stale 9;");
        for (int n = 0; n < 24; n++) {
            Check.due("mix " + n, x.mix(n % 2, n + 1), n);
        }
        Check.refused(x, "the 25th", 2, () -> x.mix(0, 1));
        Check.refused(x, "of the other mix", 2, () -> x.mix(1, 1));
        Check.due("batches", x.has(8), 24);
        for (int n = 0; n < 24; n++) {
            Check.due("mix of " + n, x.batch(n, 0), n % 2);
            Check.due("pounds of " + n, x.batch(n, 1), n + 1);
        }
        Check.hoursTo(x, 99);
        Check.refused(x, "stale ones count", 2, () -> x.mix(0, 1));
    }

    private static void poundsOfABatch() {
        Check.says("has pounds (1 .. 999), and an age: HOUR less that in which it was made.");
        TyreWorks x = Check.told("mix m ripe 0 stale 9;mix n ripe 0 stale 9;");
        for (int pounds : new int[] {0, -1, -999, Integer.MIN_VALUE, 1000, 1001, Integer.MAX_VALUE}) {
            Check.refused(x, "mix(0, " + pounds + ")", 2, () -> x.mix(0, pounds));
        }
        for (int mix : new int[] {-1, 2, 3, Integer.MIN_VALUE, Integer.MAX_VALUE}) {
            Check.refused(x, "mix(" + mix + ", 1)", 2, () -> x.mix(mix, 1));
        }
        Check.due("1", x.mix(0, 1), 0);
        Check.due("999", x.mix(1, 999), 1);
        x.hours(7);
        Check.due("2", x.mix(1, 2), 2);
        x.hours(3);
        Check.due("its age", x.batch(0, 2), 10);
        Check.due("its age", x.batch(2, 2), 3);
        Check.due("its pounds", x.batch(0, 1) + x.batch(1, 1) * 10, 9991);
    }

    private static void fitFromRipeToStale() {
        Check.says("It is FIT, if its age is ripe .. stale.");
        TyreWorks x = Check.told("mix m ripe 2 stale 4;mix n ripe 3 stale 3;"
                + "part p of m takes 1 wide 1;part q of n takes 1 wide 1;");
        x.mix(0, 99);
        x.mix(1, 99);
        int[][] due = {{0, 0, 1, 1, 1, 0, 0}, {0, 0, 0, 1, 0, 0, 0}};
        for (int hour = 0; hour < 7; hour++) {
            for (int batch = 0; batch < 2; batch++) {
                Check.due("batch " + batch + " in " + hour, x.batch(batch, 3), due[batch][hour]);
                int lots = x.has(9);
                Check.due("cut of " + batch + " in " + hour, x.cut(batch, batch, 1), due[batch][hour] == 1 ? lots : NONE);
            }
            x.hours(1);
        }
    }

    private static void partsOfACut() {
        Check.says("CUT: n PARTS (1 .. 60)");
        TyreWorks x = Check.told(PLAIN);
        x.mix(0, 999);
        for (int n : new int[] {0, -1, -60, Integer.MIN_VALUE, 61, 62, 999, Integer.MAX_VALUE, 1 << 30}) {
            Check.refused(x, "cut(0, 0, " + n + ")", 2, () -> x.cut(0, 0, n));
        }
        Check.due("1", x.cut(0, 0, 1), 0);
        Check.due("60", x.cut(0, 0, 60), 1);
        Check.due("left of 1", x.lot(0, 2), 1);
        Check.due("left of 60", x.lot(1, 2), 60);
        Check.due("pounds", x.batch(0, 1), 999 - 61);
    }

    private static void ofAFitBatchOfItsMix() {
        Check.says("of a FIT BATCH of its MIX");
        TyreWorks x = Check.told("mix m ripe 1 stale 1;mix n ripe 0 stale 9;"
                + "part p of m takes 1 wide 1;part q of n takes 1 wide 1;");
        x.mix(0, 9);
        x.mix(1, 9);
        Check.refused(x, "not ripe", 2, () -> x.cut(0, 0, 1));
        x.hours(1);
        Check.refused(x, "of another mix", 2, () -> x.cut(1, 0, 1));
        Check.refused(x, "of another mix", 2, () -> x.cut(0, 1, 1));
        for (int none : new int[] {-1, 2, 3, 24, Integer.MIN_VALUE, Integer.MAX_VALUE}) {
            Check.refused(x, "no such batch " + none, 2, () -> x.cut(none, 0, 1));
            Check.refused(x, "no such part " + none, 2, () -> x.cut(0, none, 1));
        }
        Check.due("fit", x.cut(0, 0, 1), 0);
        x.hours(1);
        Check.refused(x, "stale", 2, () -> x.cut(0, 0, 1));
        Check.due("the other one", x.cut(1, 1, 1), 1);
    }

    private static void asManyPoundsAsTheyTake() {
        Check.says("that has as many pounds as they take");
        TyreWorks x = Check.told("mix m ripe 0 stale 9;part p of m takes 7 wide 1;part q of m takes 99 wide 1;"
                + "part r of m takes 1 wide 1;");
        x.mix(0, 21);
        Check.refused(x, "four take 28", 2, () -> x.cut(0, 0, 4));
        Check.due("three take 21", x.cut(0, 0, 3), 0);
        Check.due("none left", x.batch(0, 1), 0);
        Check.refused(x, "nothing left", 2, () -> x.cut(0, 2, 1));
        x.mix(0, 20);
        Check.refused(x, "a pound lacks", 2, () -> x.cut(1, 0, 3));
        Check.due("two take 14", x.cut(1, 0, 2), 1);
        Check.due("six left", x.batch(1, 1), 6);
        x.mix(0, 999);
        Check.refused(x, "60 take 5940", 2, () -> x.cut(2, 1, 60));
        Check.refused(x, "11 take 1089", 2, () -> x.cut(2, 1, 11));
        Check.due("10 take 990", x.cut(2, 1, 10), 2);
        Check.refused(x, "10 more", 2, () -> x.cut(2, 2, 10));
        Check.due("9 more", x.cut(2, 2, 9), 3);
    }

    private static void fortyLots() {
        Check.says("they are a LOT (40 at most) of that BATCH");
        TyreWorks x = Check.told(PLAIN);
        x.mix(0, 999);
        x.mix(0, 999);
        for (int n = 0; n < 40; n++) {
            Check.due("cut " + n, x.cut(n % 2, 0, n + 1), n);
        }
        Check.refused(x, "the 41st", 2, () -> x.cut(0, 0, 1));
        Check.due("lots", x.has(9), 40);
        for (int n = 0; n < 40; n++) {
            Check.due("batch of " + n, x.lot(n, 1), n % 2);
            Check.due("left of " + n, x.lot(n, 2), n + 1);
        }
        x.build(1);
        Check.refused(x, "an empty lot counts", 2, () -> x.cut(0, 0, 1));
    }

    private static void aLotIsFitAsItsBatch() {
        Check.says("a LOT is FIT, as its BATCH is.");
        TyreWorks x = Check.told("mix m ripe 2 stale 4;part p of m takes 1 wide 1;size s cures 1;needs s 1 p;");
        x.mix(0, 99);
        x.hours(2);
        x.cut(0, 0, 9);
        int[] due = {0, 0, 1, 1, 1, 0, 0};
        for (int hour = 2; hour < 7; hour++) {
            Check.due("in " + hour, x.lot(0, 3), due[hour]);
            Check.due("stock in " + hour, x.stock(0), 9 * due[hour]);
            Check.due("could in " + hour, x.could(0), 9 * due[hour]);
            x.hours(1);
        }
        Check.refused(x, "a tyre of stale lots", 2, () -> x.build(0));
    }

    // ---- tyres

    private static void firstLotsFirst() {
        Check.says("for each of its NEEDS, in the order told, so many PARTS of FIT LOTS, the first ones first");
        TyreWorks x = Check.told("mix m ripe 0 stale 4;part p of m takes 1 wide 1;part q of m takes 1 wide 1;size s cures 1;"
                + "needs s 2 q;needs s 3 p;");
        x.mix(0, 99);
        x.cut(0, 0, 9);
        x.hours(4);
        x.mix(0, 99);
        x.mix(0, 99);
        x.mix(0, 99);
        x.cut(3, 0, 1);
        x.cut(1, 1, 1);
        x.cut(2, 0, 1);
        x.cut(3, 1, 5);
        x.cut(2, 0, 5);
        x.hours(1);
        Check.due("a stale lot is the first", x.lot(0, 3), 0);
        Check.due("build", x.build(0), 0);
        int[] left = {9, 0, 0, 0, 4, 4};
        for (int lot = 0; lot < 6; lot++) {
            Check.due("left of " + lot, x.lot(lot, 2), left[lot]);
        }
        Check.due("of these lots' batches", x.tyre(0, 3), 14);
        Check.due("build", x.build(0), 1);
        Check.due("of the lots that have some", x.tyre(1, 3), 12);
    }

    private static void ifSomeLack() {
        Check.says("if some lack, it can't be");
        TyreWorks x = Check.told("mix m ripe 0 stale 9;part p of m takes 1 wide 1;part q of m takes 1 wide 1;size s cures 1;"
                + "size t cures 1;needs s 3 p;needs s 2 q;needs t 9 q;");
        x.mix(0, 99);
        Check.refused(x, "without lots", 2, () -> x.build(0));
        x.cut(0, 0, 3);
        Check.refused(x, "without q", 2, () -> x.build(0));
        x.cut(0, 1, 1);
        Check.refused(x, "one q lacks", 2, () -> x.build(0));
        x.cut(0, 1, 1);
        Check.due("just enough", x.build(0), 0);
        Check.due("nothing left", x.stock(0) + x.stock(1), 0);
        x.cut(0, 0, 2);
        x.cut(0, 1, 8);
        Check.refused(x, "one p lacks", 2, () -> x.build(0));
        Check.refused(x, "one q of nine lacks", 2, () -> x.build(1));
        x.cut(0, 1, 1);
        Check.due("just enough", x.build(1), 1);
        for (int size : new int[] {-1, 2, 3, Integer.MIN_VALUE, Integer.MAX_VALUE}) {
            Check.refused(x, "no such size " + size, 2, () -> x.build(size));
        }
    }

    private static void withoutNeeds() {
        Check.says("(nor without NEEDS, nor if there are 60 TYRES)");
        TyreWorks x = stocked("");
        Check.refused(x, "without NEEDS", 2, () -> x.build(2));
        Check.due("could", x.could(2), NONE);
        Check.due("with them", x.build(1), 0);
        TyreWorks y = stocked("order none 9 by 9;");
        Check.due("nor does it by itself", y.goOn(9), 0);
    }

    private static void ifThereAreSixtyTyres() {
        Check.says("nor if there are 60 TYRES). THE TYRE is GREEN");
        TyreWorks x = stocked("order t 60 by 9;");
        for (int n = 0; n < 60; n++) {
            Check.due("build " + n, x.build(1), n);
            Check.due("GREEN", x.tyre(n, 1), 0);
        }
        Check.refused(x, "the 61st", 2, () -> x.build(1));
        Check.refused(x, "of another size", 2, () -> x.build(0));
        Check.due("60 parts are left", x.stock(0), 60);
        x.scrap(0);
        x.scrap(59);
        Check.refused(x, "scrapped ones count", 2, () -> x.build(1));
        Check.due("nor does it by itself", x.goOn(5), 0);
        Check.due("hour", x.has(7), 65);
    }

    private static void hourGoesOnByTheChange() {
        Check.says("HOUR goes on by 1, and by the change from the SIZE that was BUILT ahead (0 if it is that, or the first one)");
        TyreWorks x = stocked("change s t 99;change t s 0;");
        Check.hoursTo(x, 10);
        x.build(0);
        Check.due("the first one", x.has(7), 11);
        x.build(0);
        Check.due("it is that", x.has(7), 12);
        x.build(1);
        Check.due("by 99 and 1", x.has(7), 112);
        Check.refused(x, "without needs", 2, () -> x.build(2));
        x.build(1);
        Check.due("a refused one is not BUILT", x.has(7), 113);
        x.build(0);
        Check.due("by 0 and 1", x.has(7), 114);
        x.scrap(4);
        x.build(0);
        Check.due("it was BUILT, though SCRAPPED now", x.has(7), 115);
        TyreWorks y = stocked("");
        y.build(0);
        y.build(1);
        Check.due("1 without a change", y.has(7), 3);
    }

    private static void noBuildBeyondTheLastHour() {
        Check.says("HOURS go by one by one (9999 at most; what would go beyond can't be).");
        TyreWorks x = stocked("change s t 3;mix late ripe 0 stale 9;part l of late takes 1 wide 1;size u cures 1;size v cures 1;"
                + "needs u 1 l;needs v 1 l;change u v 3;change v u 0;");
        Check.hoursTo(x, 9994);
        x.mix(1, 99);
        x.cut(1, 1, 9);
        Check.due("u", x.build(3), 0);
        Check.due("HOUR", x.has(7), 9995);
        Check.due("v, by 3 and 1", x.build(4), 1);
        Check.due("HOUR", x.has(7), 9999);
        Check.refused(x, "v once more", 2, () -> x.build(4));
        Check.refused(x, "u", 2, () -> x.build(3));
        TyreWorks y = stocked("mix late ripe 0 stale 9;part l of late takes 1 wide 1;size u cures 1;size v cures 1;"
                + "needs u 1 l;needs v 1 l;change u v 3;change v u 0;");
        Check.hoursTo(y, 9995);
        y.mix(1, 99);
        y.cut(1, 1, 9);
        Check.due("u", y.build(3), 0);
        Check.refused(y, "v would be built in 10000", 2, () -> y.build(4));
        Check.due("u", y.build(3), 1);
        Check.hoursTo(y, 9998);
        Check.due("to 9999", y.build(3), 2);
        Check.refused(y, "to 10000", 2, () -> y.build(3));
    }

    private static void builtInThatLaterHour() {
        Check.says("it is built in that later HOUR.");
        TyreWorks x = stocked("rests 0 0;change s t 4;");
        x.build(0);
        Check.due("built in", x.tyre(0, 2), 1);
        x.mount(0, 1);
        x.build(1);
        Check.due("built in", x.tyre(1, 2), 6);
        Check.due("its age then", x.tyre(1, 4), 6);
        Check.due("no rest behind it", x.cure(0), 1);
    }

    // ---- presses and moulds

    private static void mouldsThatAreInNoPress() {
        Check.says("MOUNT: a MOULD that is in no PRESS comes into a PRESS");
        TyreWorks x = stocked("");
        Check.due("into the first", x.mount(0, 0), true);
        Check.refused(x, "into the other too", 3, () -> x.mount(1, 0));
        Check.refused(x, "into its own", 3, () -> x.mount(0, 0));
        for (int none : new int[] {-1, 2, 3, 4, Integer.MIN_VALUE, Integer.MAX_VALUE}) {
            Check.refused(x, "no such press " + none, 3, () -> x.mount(none, 1));
            if (none != 2) {
                Check.refused(x, "no such mould " + none, 3, () -> x.mount(1, none));
            }
        }
        Check.due("another", x.mount(1, 2), true);
        Check.due("mountings", x.has(11), 2);
    }

    private static void pressesThatDoNotCure() {
        Check.says("comes into a PRESS that does not CURE");
        TyreWorks x = stocked("");
        x.mount(0, 1);
        x.build(1);
        x.cure(0);
        Check.refused(x, "into one that cures", 3, () -> x.mount(0, 0));
        x.hours(1);
        Check.refused(x, "into one that cures", 3, () -> x.mount(0, 0));
        x.hours(1);
        Check.due("when it is free", x.mount(0, 0), true);
    }

    private static void whatWasInItComesOut() {
        Check.says("(what was in it comes out)");
        TyreWorks x = stocked("");
        x.mount(0, 0);
        x.mount(0, 1);
        Check.due("in", x.press(0, 0), 1);
        Check.due("in", x.mould(1, 1), 0);
        Check.due("out", x.mould(0, 1), NONE);
        Check.due("into another", x.mount(1, 0), true);
        Check.due("in", x.press(1, 0), 0);
        Check.due("still in", x.press(0, 0), 1);
        Check.refused(x, "both are in", 3, () -> x.mount(0, 0));
    }

    private static void fewerCuresThanItLives() {
        Check.says("with a MOULD that has had fewer CURES since it was clean than it lives");
        TyreWorks x = stocked("");
        Check.refused(x, "without a mould", 3, () -> x.cure(0));
        x.mount(0, 1);
        for (int n = 0; n < 5; n++) {
            x.build(1);
        }
        for (int n = 0; n < 3; n++) {
            Check.due("cures", x.mould(1, 2), n);
            Check.due("cure", x.cure(0), n);
            x.hours(2);
        }
        Check.due("as many as it lives", x.mould(1, 2), x.mould(1, 3));
        Check.refused(x, "the fourth", 3, () -> x.cure(0));
        x.mount(0, 0);
        x.mount(0, 1);
        Check.refused(x, "out and in is not clean", 3, () -> x.cure(0));
        Check.due("clean", x.clean(1), 3);
        Check.due("the fourth", x.cure(0), 3);
        Check.due("one since", x.mould(1, 2), 1);
        TyreWorks y = stocked("");
        y.mount(0, 2);
        y.build(0);
        y.build(0);
        Check.due("it lives one", y.cure(0), 0);
        y.hours(5);
        Check.refused(y, "no second", 3, () -> y.cure(0));
        for (int none : new int[] {-1, 2, 3, 4, Integer.MIN_VALUE, Integer.MAX_VALUE}) {
            Check.refused(y, "no such press " + none, 3, () -> y.cure(none));
        }
    }

    private static void theFirstGreenTyreOfItsSize() {
        Check.says("the first GREEN TYRE, by numbers, of the MOULD's SIZE");
        TyreWorks x = stocked("");
        x.mount(0, 0);
        x.mount(1, 2);
        Check.refused(x, "no tyres", 3, () -> x.cure(0));
        x.build(1);
        Check.refused(x, "of another size", 3, () -> x.cure(0));
        x.build(0);
        x.build(0);
        x.build(0);
        x.scrap(1);
        Check.due("not the scrapped one", x.cure(0), 2);
        Check.refused(x, "a press that cures", 3, () -> x.cure(0));
        Check.due("not the one in a press", x.cure(1), 3);
        x.hours(5);
        Check.refused(x, "cured ones are not green", 3, () -> x.cure(0));
        Check.due("the other size", x.tyre(0, 1), 0);
    }

    private static void restsWithin() {
        Check.says("whose rest (HOUR less that in which it was built) is within rests");
        for (int rest = 0; rest < 8; rest++) {
            TyreWorks x = stocked("rests 3 5;");
            x.mount(0, 0);
            x.build(0);
            Check.hoursTo(x, 1 + rest);
            if (rest < 3 || rest > 5) {
                Check.refused(x, "a rest of " + rest, 3, () -> x.cure(0));
            } else {
                Check.due("a rest of " + rest, x.cure(0), 0);
                Check.due("lay", x.tyre(0, 7), rest);
            }
        }
        TyreWorks x = stocked("rests 3 5;");
        x.mount(0, 0);
        x.build(0);
        Check.hoursTo(x, 4);
        x.build(0);
        Check.hoursTo(x, 7);
        Check.refused(x, "one has 6, the next one has 2", 3, () -> x.cure(0));
        x.hours(1);
        Check.due("the next one has 3", x.cure(0), 1);
    }

    private static void asManyHoursAsItsSizeCures() {
        Check.says("it is IN the PRESS for as many hours as its SIZE cures; "
                + "in the HOUR behind these it is CURED, and the PRESS is free.");
        for (int cures : new int[] {1, 2, 98, 99}) {
            TyreWorks x = Check.told("mix m ripe 0 stale 9;part p of m takes 1 wide 1;size s cures " + cures
                    + ";needs s 1 p;press ra;mould u of s lives 9;");
            x.mix(0, 9);
            x.cut(0, 0, 2);
            x.build(0);
            x.build(0);
            x.mount(0, 0);
            Check.due("cure", x.cure(0), 0);
            for (int n = 0; n < cures; n++) {
                Check.due("IN", x.tyre(0, 1), 1);
                Check.due("IN", x.press(0, 1), 0);
                Check.due("free in", x.press(0, 2), 2 + cures);
                Check.due("one hour", x.hours(1), n == cures - 1 ? 1 : 0);
            }
            Check.due("CURED", x.tyre(0, 1), 2);
            Check.due("free", x.press(0, 1), NONE);
            Check.due("the next in the same hour", x.cure(0), 1);
        }
    }

    private static void cleaned() {
        Check.says("CLEAN: a MOULD whose PRESS, if any, does not CURE, has had no CURES.");
        TyreWorks x = stocked("");
        Check.due("in no press, no cures", x.clean(0), 0);
        x.mount(0, 0);
        Check.due("in one that is free", x.clean(0), 0);
        x.build(0);
        x.build(0);
        x.cure(0);
        Check.refused(x, "in one that cures", 3, () -> x.clean(0));
        Check.due("another one", x.clean(1), 0);
        x.hours(4);
        Check.refused(x, "in the last hour of its cure", 3, () -> x.clean(0));
        x.hours(1);
        x.cure(0);
        x.hours(5);
        Check.due("two", x.clean(0), 2);
        Check.due("none", x.mould(0, 2), 0);
        Check.due("none", x.clean(0), 0);
        x.build(0);
        x.cure(0);
        x.hours(5);
        x.mount(0, 1);
        Check.due("in no press, one cure", x.clean(0), 1);
        for (int none : new int[] {-1, 3, 4, 8, Integer.MIN_VALUE, Integer.MAX_VALUE}) {
            Check.refused(x, "no such mould " + none, 3, () -> x.clean(none));
        }
    }

    private static void scrapped() {
        Check.says("SCRAP: a GREEN or CURED TYRE is SCRAPPED.");
        TyreWorks x = stocked("");
        Check.refused(x, "no tyres", 3, () -> x.scrap(0));
        x.mount(0, 0);
        x.build(0);
        x.build(0);
        Check.due("a green one", x.scrap(0), true);
        Check.due("its state", x.tyre(0, 1), 3);
        Check.refused(x, "a scrapped one", 3, () -> x.scrap(0));
        x.cure(0);
        Check.refused(x, "one in a press", 3, () -> x.scrap(1));
        x.hours(5);
        Check.due("a cured one", x.scrap(1), true);
        Check.due("its state", x.tyre(1, 1), 3);
        Check.refused(x, "a scrapped one", 3, () -> x.scrap(1));
        for (int none : new int[] {-1, 2, 60, Integer.MIN_VALUE, Integer.MAX_VALUE}) {
            Check.refused(x, "no such tyre " + none, 3, () -> x.scrap(none));
        }
    }

    // ---- hours

    private static void hoursToTheLast() {
        Check.says("n HOURS (1 .. 999) go by: how many TYRES were CURED in them; NONE if it can't be.");
        TyreWorks x = Check.told(PLAIN);
        for (int n : new int[] {0, -1, -999, Integer.MIN_VALUE, 1000, 9999, Integer.MAX_VALUE}) {
            Check.refused(x, "hours(" + n + ")", 4, () -> x.hours(n));
        }
        Check.due("1", x.hours(1), 0);
        Check.due("999", x.hours(999), 0);
        Check.due("HOUR", x.has(7), 1000);
        Check.hoursTo(x, 9001);
        Check.refused(x, "999 to 10000", 4, () -> x.hours(999));
        Check.due("998 to 9999", x.hours(998), 0);
        Check.refused(x, "1 to 10000", 4, () -> x.hours(1));
        Check.due("HOUR", x.has(7), 9999);
    }

    private static void curedInThem() {
        Check.says("how many TYRES were CURED in them");
        TyreWorks x = stocked("");
        x.mount(0, 0);
        x.mount(1, 1);
        x.build(0);
        x.build(1);
        x.build(1);
        x.cure(0);
        x.cure(1);
        Check.due("none in 1", x.hours(1), 0);
        Check.due("one in the next", x.hours(1), 1);
        x.cure(1);
        Check.due("none in 1", x.hours(1), 0);
        Check.due("one of both in the next", x.hours(1), 1);
        Check.due("the other in the next", x.hours(1), 1);
        Check.due("none", x.hours(99), 0);
        TyreWorks y = stocked("");
        y.mount(0, 0);
        y.mount(1, 1);
        y.build(0);
        y.build(1);
        y.cure(0);
        y.cure(1);
        Check.due("both in 999", y.hours(999), 2);
    }

    private static void goOnForHours() {
        Check.says("THE WORKS GO ON for n hours (1 .. 200): how many TYRES were BUILT; NONE if n can't be.");
        TyreWorks x = stocked("order t 2 by 9;");
        x.mount(0, 1);
        for (int n : new int[] {0, -1, -200, Integer.MIN_VALUE, 201, 202, 999, Integer.MAX_VALUE}) {
            Check.refused(x, "goOn(" + n + ")", 4, () -> x.goOn(n));
        }
        Check.due("1", x.goOn(1), 1);
        Check.due("HOUR", x.has(7), 1);
        Check.due("200", x.goOn(200), 1);
        Check.due("HOUR", x.has(7), 201);
        Check.due("cured", x.count(1, 2), 2);
        Check.due("what it can't do is no refusal", x.status(2) + x.status(3), 0);
    }

    private static void goesOnOrSomewhatMore() {
        Check.says("THE WORKS GO ON for n hours or somewhat more: until HOUR is n or more above where it was");
        for (int n = 1; n <= 9; n++) {
            TyreWorks x = stocked("order s 1 by 9;order t 1 by 9;change s t 4;");
            x.hours(3);
            Check.due("built in " + n, x.goOn(n), n == 1 ? 1 : 2);
            Check.due("HOUR of " + n, x.has(7), 3 + (n == 1 ? 1 : Math.max(n, 6)));
        }
        TyreWorks x = stocked("order s 9 by 9;");
        Check.due("just n", x.goOn(5), 5);
        Check.due("HOUR", x.has(7), 5);
    }

    private static void eachPressByNumbers() {
        Check.says("each PRESS, by numbers, CURES, if it can; then of ORDERS, in the order told");
        TyreWorks x = stocked("order t 1 by 9;");
        x.mount(0, 2);
        x.mount(1, 0);
        x.build(0);
        x.goOn(1);
        Check.due("one tyre, into the first press", x.tyre(0, 6), 0);
        x.scrap(1);
        x.build(0);
        x.build(0);
        x.hours(9);
        x.clean(2);
        x.goOn(1);
        Check.due("two tyres, the first into the first press", x.tyre(2, 6), 0);
        Check.due("the second into the second", x.tyre(3, 6), 1);
        Check.due("then t is built", x.tyre(4, 0), 1);
        Check.due("in a later hour", x.tyre(4, 2) - x.tyre(2, 2) - x.tyre(2, 7), 2);
    }

    private static void theFirstOrderThatCanBeBuilt() {
        Check.says("the first whose SIZE has fewer TYRES that are not SCRAPPED than all ORDERS of it ask together, "
                + "and that can be BUILT: it is; else HOUR is one more.");
        TyreWorks x = stocked("order none 9 by 9;order t 1 by 9;order s 2 by 9;order t 2 by 9;change s t 0;change t s 0;");
        x.mount(0, 1);
        Check.due("3 of t, 2 of s", x.goOn(20), 5);
        int[] sizes = {1, 1, 1, 0, 0};
        for (int t = 0; t < 5; t++) {
            Check.due("size of " + t, x.tyre(t, 0), sizes[t]);
            Check.due("built in", x.tyre(t, 2), t + 1);
        }
        Check.due("green ones and cured ones count", x.count(0, 0) * 10 + x.count(1, 2), 23);
        Check.due("as many as all ask", x.goOn(5), 0);
        x.scrap(0);
        x.scrap(3);
        Check.due("for two scrapped ones", x.goOn(5), 2);
        Check.due("first of t", x.tyre(5, 0), 1);
        Check.due("then of s", x.tyre(6, 0), 0);
        TyreWorks y = stocked("order t 1 by 9;");
        y.mount(0, 1);
        y.build(1);
        y.cure(0);
        Check.due("one in a press counts", y.goOn(1), 0);
    }

    private static void endsAheadOfThat() {
        Check.says("(It ends ahead of that, if an HOUR would go beyond 9999.)");
        TyreWorks x = stocked("order t 60 by 9;");
        Check.hoursTo(x, 9990);
        Check.due("nothing fit", x.goOn(8), 0);
        Check.due("HOUR", x.has(7), 9998);
        Check.due("one hour", x.goOn(200), 0);
        Check.due("HOUR", x.has(7), 9999);
        Check.due("none", x.goOn(1), 0);
        Check.due("HOUR", x.has(7), 9999);
        Check.due("no refusal", x.status(4), 0);
        TyreWorks y = stocked("mix n ripe 0 stale 99;part q of n takes 1 wide 1;size u cures 1;needs u 1 q;"
                + "order u 60 by 9;mould mu of u lives 99;");
        Check.hoursTo(y, 9990);
        y.mix(1, 99);
        y.cut(1, 1, 20);
        y.mount(1, 3);
        Check.due("nine", y.goOn(200), 9);
        Check.due("HOUR", y.has(7), 9999);
        Check.due("eight cured", y.count(3, 2), 8);
        Check.due("the ninth came into its press", y.count(3, 1), 1);
        Check.due("none", y.goOn(200), 0);
    }
}
