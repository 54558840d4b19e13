/** Promises 1 to 14, sentence by sentence, where one names a boundary: the tape, works() and what is told. */
public final class EdgeCallsTest {
    private static final int NONE = TyreWorks.NONE;
    private static final String TEXT = "mix m ripe 3 stale 7;mix abcdef ripe 0 stale 0;part p of m takes 4 wide 28;"
            + "part q of m takes 2 wide 9;size s cures 5;size t cures 1;size u cures 99;needs s 2 p;needs t 1 q;"
            + "needs t 2 p;change s t 7;press ra;press rb;mould ms of s lives 2;mould mt of t lives 3;"
            + "order s 3 by 40;order t 2 by 60;bad when worn=1;rests 0 50;";

    public static void main(String[] args) {
        noneIsMinusOne();
        noMixesNoPresses();
        twentyBytesBehindThose();
        theHighestFirst();
        noMoreThan1600();
        theFirstBytesAlone();
        notSoManyBytes();
        theTapeGoes();
        allStaysWithAFault();
        nothingIsMadeOrMounted();
        theWheelAndRefusalsStay();
        faultsAheadOfAny();
        faultsOfTheLatest();
        howMany();
        letters();
        needs();
        changes();
        hoursUntilFit();
        hoursFitYet();
        noSuchBatch();
        noSuchLot();
        noSuchTyre();
        aheadOfItsCure();
        badUnlessCured();
        aPressWithoutAMould();
        theHourInWhichItIsFree();
        noSuchPress();
        noSuchMould();
        Check.close();
    }

    /** Hour 10 or so: a tyre that is green, one in a press, one cured, one scrapped. */
    private static TyreWorks busy() {
        TyreWorks x = Check.told(TEXT);
        x.mix(0, 200);
        x.hours(3);
        x.cut(0, 0, 20);
        x.cut(0, 1, 20);
        x.mount(0, 1);
        x.mount(1, 0);
        x.build(1);
        x.cure(0);
        x.build(1);
        x.build(1);
        x.scrap(1);
        x.build(0);
        x.cure(1);
        Check.due("cured", x.tyre(0, 1), 2);
        Check.due("scrapped", x.tyre(1, 1), 3);
        Check.due("green", x.tyre(2, 1), 0);
        Check.due("in a press", x.tyre(3, 1), 1);
        return x;
    }

    private static void noneIsMinusOne() {
        Check.says("`NONE = -1`: None; refused.");
        Check.due("NONE", TyreWorks.NONE, -1);
    }

    private static void noMixesNoPresses() {
        Check.says("`TyreWorks()`: No MIXES, no PRESSES.");
        TyreWorks x = new TyreWorks();
        for (int what = 0; what <= 11; what++) {
            Check.due("has(" + what + ")", x.has(what), 0);
        }
        for (int what = 0; what <= 6; what++) {
            Check.due("pounds(" + what + ")", x.pounds(what), 0);
            Check.due("status(" + what + ")", x.status(what), what < 6 ? 0 : NONE);
        }
        for (int zero = 0; zero < 3; zero++) {
            Check.due("letter", x.letter(zero, 0, 0), NONE);
            Check.due("asked", x.needs(zero, 0) + x.change(zero, 0) + x.batch(zero, 0) + x.lot(zero, 0) + x.tyre(zero, 0)
                    + x.press(zero, 0) + x.mould(zero, 0) + x.stock(zero) + x.count(zero, 0) + x.could(zero), -10);
            Check.due("asked", x.trace(zero, 0) + x.others(zero) + x.bad(zero) + x.law(zero) + x.route(zero)
                    + x.starves(zero) + x.kept(zero) + x.when(zero) + x.spread(zero, 0) + x.turn(zero), -10);
            Check.due("octet", x.octet(zero), NONE);
        }
        Check.due("waste, match", x.waste() + x.match(), -2);
        Check.due("bad of any", x.bad(NONE), 0);
        Check.due("route", x.route(NONE), 0);
        Check.due("the tape is empty", x.end(0), true);
        Check.due("the tape is empty", x.end(1), false);
        Check.due("works", x.works(), 0);
        Check.due("goOn", x.goOn(3), 0);
        Check.due("hour", x.has(7), 3);
        Check.due("image", x.image(), 4);
    }

    // ---- the tape

    private static void twentyBytesBehindThose() {
        Check.says("Twenty bytes come behind those on the tape");
        TyreWorks x = new TyreWorks();
        Check.due("feed", x.feed(0x70726573, 0x73206162, 0x63202020, 0x20202020, 0x20202020), 20);
        Check.due("end", x.end(8), true);
        Check.due("feed", x.feed(0x7a3b2020, 0x20202020, 0x20202020, 0x20202020, 0x20202020), 28);
        Check.due("works", x.works(), 1);
        String name = "abz";
        for (int k = 0; k < 3; k++) {
            Check.due("letter " + k, x.letter(3, 0, k), name.charAt(k));
        }
        Check.due("no letter more", x.letter(3, 0, 3), NONE);
    }

    private static void theHighestFirst() {
        Check.says("of each number the highest first");
        for (int place = 0; place < 8; place++) {
            TyreWorks x = new TyreWorks();
            int[] five = new int[5];
            five[place / 4] = 0xC8 << (24 - 8 * (place % 4));
            Check.due("feed", x.feed(five[0], five[1], 0, 0, 0), 20);
            Check.due("end", x.end(8), true);
            Check.due("of the wheel", x.wave(NONE), true);
            Check.works(x, "mix m ripe 0 stale 9;part p of m takes 1 wide 1;size s cures 1;needs s 1 p;");
            x.mix(0, 1);
            x.cut(0, 0, 1);
            x.build(0);
            int[] bytes = {55, 55, 55, 55, 55, 55, 55, 55};
            bytes[place] = 0;
            Check.bytes(x, bytes);
            Check.due("of the tyre", x.wave(0), true);
            Check.due("200 stands at " + place, x.spread(0, 0), 200 - 55);
        }
    }

    private static void noMoreThan1600() {
        Check.says("NONE, doing nothing, if there would be more than 1600.");
        TyreWorks x = new TyreWorks();
        for (int n = 1; n <= 79; n++) {
            x.feed(0x20202020, 0x20202020, 0x20202020, 0x20202020, 0x20202020);
        }
        Check.due("the 80th", x.feed(0x20202020, 0x20202020, 0x20202020, 0x20202020, 0x20202020), 1600);
        Check.refused(x, "the 81st feed", 0, () -> x.feed(0, 0, 0, 0, 0));
        Check.due("1600 stay", x.end(1600), true);
        Check.due("1581 are there", x.end(1581), true);
        Check.refused(x, "a feed to 1601", 0, () -> x.feed(0, 0, 0, 0, 0));
        Check.due("1581 stay", x.end(1581), true);
        Check.due("no more", x.end(1582), false);
        Check.due("1580 are there", x.end(1580), true);
        Check.due("a feed to 1600", x.feed(0x20202020, 0x20202020, 0x20202020, 0x20202020, 0x20202020), 1600);
        Check.due("nothing but blanks", x.works(), 0);
        Check.due("a text of 1600", Check.works(x, "press abcdef;" + " ".repeat(1587)), 1);
        Check.due("to its last byte", Check.works(x, " ".repeat(1592) + "press a;"), 1);
    }

    private static void theFirstBytesAlone() {
        Check.says("The tape has its first n bytes alone: true");
        TyreWorks x = new TyreWorks();
        x.feed(0x70726573, 0x7320613b, 0x70726573, 0x7320623b, 0x20202020);
        Check.due("all of them", x.end(20), true);
        Check.due("16", x.end(16), true);
        Check.due("16 again", x.end(16), true);
        Check.due("8", x.end(8), true);
        Check.due("16 no more", x.end(16), false);
        Check.due("works", x.works(), 1);
        Check.due("one press", x.has(3), 1);
        Check.due("no bytes", x.end(0), true);
        x.feed(1, 2, 3, 4, 5);
        Check.due("none of twenty", x.end(0), true);
        Check.due("feed anew", x.feed(1, 2, 3, 4, 5), 20);
    }

    private static void notSoManyBytes() {
        Check.says("false, doing nothing, if it has not so many, or n is below 0.");
        TyreWorks x = new TyreWorks();
        x.feed(0x70726573, 0x7320613b, 0x20202020, 0x20202020, 0x20202020);
        for (int n : new int[] {21, 22, 1600, 1601, Integer.MAX_VALUE, -1, -2, -20, Integer.MIN_VALUE}) {
            Check.refused(x, "end(" + n + ")", 0, () -> x.end(n));
        }
        Check.due("twenty stay", x.end(20), true);
        Check.due("the text stays", x.works(), 1);
        Check.refused(x, "end(1) of nothing", 0, () -> x.end(1));
    }

    // ---- works

    private static void theTapeGoes() {
        Check.says("The tape (it goes) is THE WORKS: how many STATEMENTS");
        TyreWorks x = new TyreWorks();
        Check.due("three", Check.works(x, "press a;rests 1 2;rests 1 2;"), 3);
        Check.due("the tape went", x.end(1), false);
        Check.due("none", x.works(), 0);
        Check.due("no press", x.has(3), 0);
        Check.due("with a fault", Check.works(x, "press"), NONE);
        Check.due("the tape went", x.end(1), false);
        Check.due("feed", x.feed(0, 0, 0, 0, 0), 20);
    }

    private static void allStaysWithAFault() {
        Check.says("NONE with a FAULT (all stays).");
        TyreWorks x = busy();
        x.image();
        for (String text : new String[] {";", "press a;press", "mix x ripe 0 stale 0;press x;", "order zz 1 by 1;", "sheet 0",
            "rests 7 8;sheet 1 splice 1;size x cures 3;size y cures 4;change x y 9;bad when all;bad when all;;",
            "press a;press b;press c;press d;press e;", "bad when [[[[[[[[["}) {
            Check.refused(x, "works of " + text, 1, () -> Check.works(x, text));
        }
        Check.bytes(x, 0, 0, 0, 0);
        Check.due("the sheet stays", x.sheets(), 2);
        Check.due("rests stay", x.cure(0), 2);
    }

    private static void nothingIsMadeOrMounted() {
        Check.says("Without one HOUR is 0, nothing is made or mounted");
        String fresh = Check.state(Check.told(TEXT));
        TyreWorks x = busy();
        Check.due("not as new", Check.state(x).equals(fresh), false);
        Check.due("works", Check.works(x, TEXT), 19);
        Check.due("as new", Check.state(x).equals(fresh), true);
        Check.due("hour", x.has(7), 0);
        for (int what = 8; what <= 11; what++) {
            Check.due("has(" + what + ")", x.has(what), 0);
        }
        Check.due("mount", x.mount(1, 0), true);
        Check.due("one mounting", x.has(11), 1);
        Check.due("the first batch", x.mix(0, 200), 0);
        x.hours(3);
        Check.due("the first lot", x.cut(0, 0, 9), 0);
        Check.due("the first tyre, not changed to", x.build(0), 0);
        Check.due("hour", x.has(7), 4);
        Check.due("works", Check.works(x, ""), 0);
        Check.due("nothing told", Check.state(x).equals(Check.state(new TyreWorks())), true);
    }

    private static void theWheelAndRefusalsStay() {
        Check.says("THE WHEEL and REFUSALS stay.");
        TyreWorks x = busy();
        Check.bytes(x, 0, 0, 0, 77, 0, 0, 0, 0);
        Check.due("wave of the wheel", x.wave(NONE), true);
        Check.bytes(x, 9, 0, 0, 0, 0, 0, 0, 0);
        Check.due("wave of a tyre", x.wave(0), true);
        for (int kind = 0; kind < 6; kind++) {
            for (int n = 0; n <= kind; n++) {
                refuse(x, kind);
            }
        }
        Check.due("works", Check.works(x, TEXT), 19);
        for (int kind = 0; kind < 6; kind++) {
            Check.due("refusals of kind " + kind, x.status(kind), kind + 1);
        }
        x.mix(0, 200);
        x.hours(3);
        x.cut(0, 0, 9);
        x.build(0);
        Check.due("the wheel's, and a new tyre's", x.spread(0, 0), 77);
        Check.due("of all turns", x.spread(0, 3), 77);
    }

    private static void refuse(TyreWorks x, int kind) {
        switch (kind) {
            case 0:
                x.end(-1);
                break;
            case 1:
                Check.works(x, "!");
                break;
            case 2:
                x.build(9);
                break;
            case 3:
                x.clean(9);
                break;
            case 4:
                x.hours(0);
                break;
            default:
                x.sheets();
                break;
        }
    }

    private static void faultsAheadOfAny() {
        Check.says("its FAULT (what 0; 0 without, and ahead of any), its place (1; NONE without). NONE for another what.");
        TyreWorks x = new TyreWorks();
        Check.due("ahead of any", x.fault(0), 0);
        Check.due("ahead of any", x.fault(1), NONE);
        Check.noneSuch("fault", 2, x::fault);
        Check.works(x, "press a;");
        Check.due("without", x.fault(0), 0);
        Check.due("without", x.fault(1), NONE);
        Check.works(x, "!");
        Check.due("a fault", x.fault(0), 1);
        Check.due("its place 0", x.fault(1), 0);
        Check.noneSuch("fault", 2, x::fault);
    }

    private static void faultsOfTheLatest() {
        Check.says("Of the latest works()");
        TyreWorks x = new TyreWorks();
        Check.works(x, "press a;press a;");
        Check.due("the first", x.fault(0) * 100 + x.fault(1), 214);
        Check.works(x, "order a 1 by 1;");
        Check.due("the second", x.fault(0) * 100 + x.fault(1), 306);
        Check.works(x, "press a;");
        Check.due("the third", x.fault(0) * 100 + x.fault(1), -1);
        Check.works(x, " ".repeat(1599) + "!");
        Check.due("the last place", x.fault(1), 1599);
        Check.works(x, "press" + " ".repeat(1595));
        Check.due("the text's length", x.fault(1), 1600);
    }

    // ---- what is told

    private static void howMany() {
        Check.says("10 TYRES, 11 MOUNTINGS so far. NONE for others.");
        TyreWorks x = busy();
        int[] due = {2, 2, 3, 2, 2, 2, 1, x.press(0, 2), 1, 2, 4, 2};
        for (int what = 0; what < 12; what++) {
            Check.due("has(" + what + ")", x.has(what), due[what]);
        }
        Check.noneSuch("has", 12, x::has);
        x.mount(0, 1);
        Check.due("a refused mounting is none", x.has(11), 2);
        TyreWorks y = Check.told(TEXT);
        y.mount(0, 0);
        y.mount(0, 1);
        y.mount(1, 0);
        Check.due("mounted again counts", y.has(11), 3);
        Check.noneSuch("has", 12, new TyreWorks()::has);
    }

    private static void letters() {
        Check.says("97 .. 122; NONE if there is none such.");
        TyreWorks x = Check.told(TEXT + "press az;");
        Check.due("97", x.letter(3, 2, 0), 97);
        Check.due("122", x.letter(3, 2, 1), 122);
        int[] counts = {2, 2, 3, 3, 2};
        for (int kind = 0; kind < 5; kind++) {
            int one = kind;
            Check.noneSuch("which of kind " + kind, counts[kind], which -> x.letter(one, which, 0));
            for (int which = 0; which < counts[kind]; which++) {
                int name = which;
                int length = 0;
                while (length < 9 && x.letter(kind, which, length) != NONE) {
                    length++;
                }
                Check.due("length of " + kind + " " + which, length, kind == 0 && which == 1 ? 6 : kind < 3 ? 1 : 2);
                Check.noneSuch("letter of " + kind + " " + which, length, k -> x.letter(one, name, k));
            }
        }
        Check.noneSuch("kind", 5, kind -> x.letter(kind, 0, 0));
    }

    private static void needs() {
        Check.says("How many of a PART a SIZE needs (0 if none); NONE if there are none such.");
        TyreWorks x = Check.told(TEXT);
        int[][] due = {{2, 0}, {2, 1}, {0, 0}};
        for (int size = 0; size < 3; size++) {
            int one = size;
            for (int part = 0; part < 2; part++) {
                Check.due("needs(" + size + ", " + part + ")", x.needs(size, part), due[size][part]);
            }
            Check.noneSuch("needs, part", 2, part -> x.needs(one, part));
        }
        Check.noneSuch("needs, size", 3, size -> x.needs(size, 0));
        Check.noneSuch("needs, both", 3, both -> x.needs(both, both));
    }

    private static void changes() {
        Check.says("Hours of the change from a SIZE to another one (0 if it is that); NONE if there are none such.");
        TyreWorks x = Check.told(TEXT);
        int[][] due = {{0, 7, 1}, {1, 0, 1}, {1, 1, 0}};
        for (int from = 0; from < 3; from++) {
            int one = from;
            for (int to = 0; to < 3; to++) {
                Check.due("change(" + from + ", " + to + ")", x.change(from, to), due[from][to]);
            }
            Check.noneSuch("change, to", 3, to -> x.change(one, to));
            Check.noneSuch("change, from", 3, none -> x.change(none, one));
        }
        Check.noneSuch("change, both", 3, both -> x.change(both, both));
    }

    // ---- what is made

    private static void hoursUntilFit() {
        Check.says("4 in how many hours it will be (0 if it is; NONE if it is stale)");
        TyreWorks x = Check.told(TEXT);
        x.mix(0, 9);
        x.mix(1, 9);
        int[] due = {3, 2, 1, 0, 0, 0, 0, 0, NONE, NONE};
        for (int hour = 0; hour < due.length; hour++) {
            Check.due("in " + hour, x.batch(0, 4), due[hour]);
            Check.due("FIT in " + hour, x.batch(0, 3), due[hour] == 0 ? 1 : 0);
            Check.due("ripe and stale at 0, in " + hour, x.batch(1, 4), hour == 0 ? 0 : NONE);
            x.hours(1);
        }
    }

    private static void hoursFitYet() {
        Check.says("5 how many hours it is FIT yet from now on, this one counted (0 if stale; ahead of ripe all of them).");
        TyreWorks x = Check.told(TEXT);
        x.mix(0, 9);
        x.mix(1, 9);
        int[] due = {5, 5, 5, 5, 4, 3, 2, 1, 0, 0};
        for (int hour = 0; hour < due.length; hour++) {
            Check.due("in " + hour, x.batch(0, 5), due[hour]);
            Check.due("age in " + hour, x.batch(0, 2), hour);
            Check.due("ripe and stale at 0, in " + hour, x.batch(1, 5), hour == 0 ? 1 : 0);
            x.hours(1);
        }
    }

    private static void noSuchBatch() {
        Check.says("ahead of ripe all of them). NONE if there is none such, or for others.");
        TyreWorks x = Check.told(TEXT);
        Check.noneSuch("batch ahead of any", 0, batch -> x.batch(batch, 0));
        x.mix(0, 9);
        x.mix(1, 9);
        Check.noneSuch("batch", 2, batch -> x.batch(batch, 0));
        Check.noneSuch("batch what", 6, what -> x.batch(0, what));
        Check.noneSuch("batch what", 6, what -> x.batch(1, what));
    }

    private static void noSuchLot() {
        Check.says("3 whether it is FIT. NONE if there is none such, or for others.");
        TyreWorks x = Check.told(TEXT);
        Check.noneSuch("lot ahead of any", 0, lot -> x.lot(lot, 0));
        x.mix(0, 100);
        x.hours(3);
        x.cut(0, 1, 7);
        x.cut(0, 0, 1);
        Check.noneSuch("lot", 2, lot -> x.lot(lot, 0));
        Check.noneSuch("lot what", 4, what -> x.lot(0, what));
        int[] due = {1, 0, 7, 1};
        for (int what = 0; what < 4; what++) {
            Check.due("lot what " + what, x.lot(0, what), due[what]);
        }
        x.hours(4);
        Check.due("FIT as its batch is", x.lot(0, 3), 1);
        x.hours(1);
        Check.due("stale as its batch is", x.lot(0, 3), 0);
    }

    private static void noSuchTyre() {
        Check.says("8 whether it is BAD (NONE unless it is CURED). NONE if there is none such, or for others.");
        TyreWorks x = Check.told(TEXT);
        Check.noneSuch("tyre ahead of any", 0, tyre -> x.tyre(tyre, 0));
        TyreWorks y = busy();
        for (int what = 0; what < 9; what++) {
            int one = what;
            Check.noneSuch("tyre what " + what, 4, tyre -> y.tyre(tyre, one));
        }
        for (int tyre = 0; tyre < 4; tyre++) {
            int one = tyre;
            Check.noneSuch("what of " + tyre, 9, what -> y.tyre(one, what));
        }
    }

    private static void aheadOfItsCure() {
        Check.says("5 worn, 6 its PRESS, 7 lay (5 to 7 NONE ahead of its CURE)");
        TyreWorks x = busy();
        int[][] due = {{0, 0, 0}, {NONE, NONE, NONE}, {NONE, NONE, NONE}, {0, 1, 0}};
        for (int tyre = 0; tyre < 4; tyre++) {
            for (int k = 0; k < 3; k++) {
                Check.due("tyre(" + tyre + ", " + (5 + k) + ")", x.tyre(tyre, 5 + k), due[tyre][k]);
            }
        }
        x.cure(0);
        Check.due("worn", x.tyre(2, 5), 1);
        Check.due("press", x.tyre(2, 6), 0);
        Check.due("lay", x.tyre(2, 7), 2);
    }

    private static void badUnlessCured() {
        Check.says("(NONE unless it is CURED)");
        TyreWorks x = busy();
        int[] due = {0, NONE, NONE, NONE};
        for (int tyre = 0; tyre < 4; tyre++) {
            Check.due("tyre(" + tyre + ", 8)", x.tyre(tyre, 8), due[tyre]);
        }
        x.cure(0);
        Check.due("in a press", x.tyre(2, 8), NONE);
        x.hours(1);
        Check.due("cured, and worn was 1", x.tyre(2, 8), 1);
        x.scrap(2);
        Check.due("scrapped", x.tyre(2, 8), NONE);
    }

    private static void aPressWithoutAMould() {
        Check.says("0 its MOULD (NONE without), 1 the TYRE that is IN it (NONE without)");
        TyreWorks x = Check.told(TEXT);
        for (int press = 0; press < 2; press++) {
            Check.due("mould", x.press(press, 0), NONE);
            Check.due("tyre", x.press(press, 1), NONE);
            Check.due("free", x.press(press, 2), 0);
        }
        for (int mould = 0; mould < 2; mould++) {
            Check.due("press", x.mould(mould, 1), NONE);
            Check.due("cures", x.mould(mould, 2), 0);
        }
        x.mount(1, 0);
        Check.due("mould", x.press(1, 0), 0);
        Check.due("none still", x.press(0, 0), NONE);
        Check.due("press", x.mould(0, 1), 1);
        Check.due("tyre", x.press(1, 1), NONE);
        TyreWorks y = busy();
        Check.due("tyre", y.press(1, 1), 3);
        Check.due("it cures no more", y.press(0, 1), NONE);
    }

    private static void theHourInWhichItIsFree() {
        Check.says("2 the HOUR in which it is free (HOUR, if it is)");
        TyreWorks x = busy();
        int hour = x.has(7);
        Check.due("it is", x.press(0, 2), hour);
        for (int n = 0; n < 5; n++) {
            Check.due("in five hours", x.press(1, 2), hour + 5);
            Check.due("in it", x.press(1, 1), 3);
            x.hours(1);
        }
        Check.due("it is", x.press(1, 2), hour + 5);
        Check.due("none in it", x.press(1, 1), NONE);
        x.hours(1);
        Check.due("it is", x.press(1, 2), hour + 6);
    }

    private static void noSuchPress() {
        Check.says("(HOUR, if it is). NONE if there is none such, or for others.");
        TyreWorks x = busy();
        for (int k = 0; k < 3; k++) {
            int one = k;
            Check.noneSuch("press what " + k, 2, press -> x.press(press, one));
            Check.noneSuch("what of a press", 3, what -> x.press(one % 2, what));
        }
    }

    private static void noSuchMould() {
        Check.says("3 how many it lives. NONE if there is none such, or for others.");
        TyreWorks x = busy();
        for (int k = 0; k < 4; k++) {
            int one = k;
            Check.noneSuch("mould what " + k, 2, mould -> x.mould(mould, one));
            Check.noneSuch("what of a mould", 4, what -> x.mould(one % 2, what));
        }
    }
}
