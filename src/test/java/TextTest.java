/** Promises 1, 4, 6, 7, 8, 9: a new object, works, has, letter, needs, change. */
public final class TextTest {
    private static final int NONE = TyreWorks.NONE;
    private static final String TEXT = "mix nat ripe 1 stale 30; mix a ripe 0 stale 0;\npart tread of nat takes 4 wide 28;"
            + "size van cures 6;size car cures 3;size lorrys cures 99;needs van 2 tread;needs car 9 tread;"
            + "change van car 0;change van car 7;change car van 99;press ned;press p;"
            + "mould va of van lives 2;order van 2 by 9999;order van 60 by 0;sheet 400 splice 9;rests 0 0;bad when all;"
            + "bad when 1=1;bad when old<1;";

    public static void main(String[] args) {
        isNew();
        tells();
        names();
        needsAndChanges();
        startsAnew();
        staysWithAFault();
        takesBlanks();
        forgetsWhatWasTold();
        hasRoomForLawsAgain();
        takesAsManyAsMayBe();
        Check.close();
    }

    private static void isNew() {
        TyreWorks x = new TyreWorks();
        for (int what = 0; what <= 11; what++) {
            Check.due("new has " + what, x.has(what), 0);
        }
        Check.due("new fault(0)", x.fault(0), 0);
        Check.due("new fault(1)", x.fault(1), NONE);
        Check.due("new fault(2)", x.fault(2), NONE);
        Check.due("new fault(-1)", x.fault(-1), NONE);
        Check.due("new letter", x.letter(0, 0, 0), NONE);
        Check.due("new press", x.press(0, 0), NONE);
        Check.due("new mix", x.mix(0, 1), NONE);
        Check.due("new route", x.route(NONE), 0);
        Check.due("new hours", x.hours(5), 0);
        Check.due("new hour", x.has(7), 5);
    }

    private static void tells() {
        TyreWorks x = Check.told(TEXT);
        int[] due = {2, 1, 3, 2, 1, 2, 3, 0, 0, 0, 0, 0};
        for (int what = 0; what < due.length; what++) {
            Check.due("has " + what, x.has(what), due[what]);
        }
        Check.due("has -1", x.has(-1), NONE);
        Check.due("has 12", x.has(12), NONE);
        Check.due("fault", x.fault(0), 0);
        Check.due("place", x.fault(1), NONE);
        Check.due("the tape is gone", x.end(1), false);
        Check.due("empty works", x.works(), 0);
        Check.due("no mixes now", x.has(0), 0);
    }

    private static void names() {
        TyreWorks x = Check.told(TEXT);
        String[][] names = {{"nat", "a"}, {"tread"}, {"van", "car", "lorrys"}, {"ned", "p"}, {"va"}};
        for (int kind = 0; kind < names.length; kind++) {
            for (int which = 0; which < names[kind].length; which++) {
                String name = names[kind][which];
                for (int k = 0; k < name.length(); k++) {
                    Check.due("letter " + kind + which + k, x.letter(kind, which, k), name.charAt(k));
                }
                Check.due("behind " + name, x.letter(kind, which, name.length()), NONE);
                Check.due("ahead of " + name, x.letter(kind, which, -1), NONE);
                Check.due("far behind " + name, x.letter(kind, which, 64), NONE);
            }
            Check.due("no such " + kind, x.letter(kind, names[kind].length, 0), NONE);
            Check.due("no such " + kind, x.letter(kind, -1, 0), NONE);
        }
        Check.due("kind 5", x.letter(5, 0, 0), NONE);
        Check.due("kind -1", x.letter(-1, 0, 0), NONE);
    }

    private static void needsAndChanges() {
        TyreWorks x = Check.told(TEXT);
        Check.due("needs 0 0", x.needs(0, 0), 2);
        Check.due("needs 1 0", x.needs(1, 0), 9);
        Check.due("needs 2 0", x.needs(2, 0), 0);
        Check.due("needs 3 0", x.needs(3, 0), NONE);
        Check.due("needs 0 1", x.needs(0, 1), NONE);
        Check.due("needs -1 0", x.needs(-1, 0), NONE);
        Check.due("needs 0 -1", x.needs(0, -1), NONE);
        Check.due("the last change counts", x.change(0, 1), 7);
        Check.due("the other way", x.change(1, 0), 99);
        Check.due("1 without", x.change(0, 2), 1);
        Check.due("1 without", x.change(2, 1), 1);
        Check.due("the same", x.change(2, 2), 0);
        Check.due("change 0 3", x.change(0, 3), NONE);
        Check.due("change -1 0", x.change(-1, 0), NONE);
        Check.due("change 0 -1", x.change(0, -1), NONE);
        Check.due("change 3 3", x.change(3, 3), NONE);
    }

    private static void startsAnew() {
        TyreWorks x = Check.told(TEXT);
        x.mix(0, 100);
        x.hours(1);
        x.cut(0, 0, 10);
        Check.due("mount", x.mount(1, 0), true);
        Check.due("build", x.build(0), 0);
        Check.due("mountings", x.has(11), 1);
        x.cure(1);
        Check.bytes(x, 1, 2, 3, 4, 5, 6, 7, 8);
        Check.due("wave of the wheel", x.wave(NONE), true);
        Check.bytes(x, 9, 2, 3, 4, 5, 6, 7, 8);
        Check.due("wave of the tyre", x.wave(0), true);
        Check.due("refused", x.mix(9, 9), NONE);
        Check.due("again", Check.works(x, TEXT), 21);
        for (int what = 7; what <= 11; what++) {
            Check.due("anew has " + what, x.has(what), 0);
        }
        Check.due("press is free", x.press(1, 0), NONE);
        Check.due("press is free", x.press(1, 1), NONE);
        Check.due("press is free", x.press(1, 2), 0);
        Check.due("mould is out", x.mould(0, 1), NONE);
        Check.due("mould is clean", x.mould(0, 2), 0);
        Check.due("refusals stay", x.status(2), 1);
        x.mix(0, 100);
        x.hours(1);
        x.cut(0, 0, 10);
        Check.due("build anew", x.build(1), 0);
        Check.due("no change from nothing", x.has(7), 2);
        Check.due("the wheel stays, the tyre's wave went", x.spread(0, 0), 7);
    }

    private static void staysWithAFault() {
        TyreWorks x = Check.told(TEXT);
        x.mix(0, 100);
        x.hours(3);
        Check.due("mount", x.mount(0, 0), true);
        Check.due("faulty", Check.works(x, "mix other ripe 1 stale 2; press ned"), NONE);
        Check.due("fault", x.fault(0), 1);
        Check.due("place", x.fault(1), 35);
        Check.due("the tape is gone", x.end(1), false);
        Check.due("mixes stay", x.has(0), 2);
        Check.due("name stays", x.letter(0, 0, 0), 'n');
        Check.due("hour stays", x.has(7), 3);
        Check.due("batch stays", x.batch(0, 1), 100);
        Check.due("mounted stays", x.press(0, 0), 0);
        Check.due("change stays", x.change(0, 1), 7);
        Check.due("refusals", x.status(1), 1);
        Check.due("good again", Check.works(x, "press z;"), 1);
        Check.due("fault went", x.fault(0), 0);
        Check.due("place went", x.fault(1), NONE);
        Check.due("name now", x.letter(3, 0, 0), 'z');
        Check.due("one press now", x.has(3), 1);
        Check.due("no size now", x.change(0, 0), NONE);
        Check.due("again told", Check.works(x, TEXT), 21);
        Check.due("1 without, though once told", x.change(2, 0), 1);
    }

    private static void takesBlanks() {
        Check.told("\n \nmix\na  ripe\n1 stale 2 ; \n press b ;\n\n");
        Check.told("press b;press c;bad when[not[old>1]]and(1)<min(2,3);");
        Check.told("rests 007 0999;");
        Check.due("nothing but blanks", Check.works(new TyreWorks(), "\n  \n"), 0);
    }

    /** What the last text but one told must not shine through: rows are used again. */
    private static void forgetsWhatWasTold() {
        String plain = "mix m ripe 0 stale 999;part p of m takes 1 wide 50;size a cures 1;needs a 1 p;press x;"
                + "mould ma of a lives 9;";
        TyreWorks x = new TyreWorks();
        for (int n = 0; n < 3; n++) {
            Check.due("with a sheet and rests", Check.works(x, plain + "sheet 400 splice 9;rests 7 8;bad when all;"), 9);
            x.mix(0, 9);
            x.cut(0, 0, 9);
            x.build(0);
            x.mount(0, 0);
            x.hours(7);
            Check.due("cure", x.cure(0), 0);
            x.hours(1);
            Check.due("cured and bad", x.law(0), 0);
        }
        for (int n = 0; n < 3; n++) {
            Check.due("without", Check.works(x, plain), 6);
            Check.due("mould is out", x.press(0, 0), NONE);
            Check.bytes(x, 0, 0);
            Check.due("sheet 100, splice 0", x.sheets(), 1);
            Check.due("no waste", x.waste(), 0);
            x.mix(0, 9);
            x.cut(0, 0, 9);
            x.mount(0, 0);
            x.build(0);
            Check.due("green", x.tyre(0, 1), 0);
            Check.due("rest 0", x.cure(0), 0);
            x.hours(1);
            Check.due("no law", x.law(0), NONE);
            x.build(0);
            x.hours(999);
            x.hours(1);
            Check.due("not rest 1000", x.cure(0), NONE);
        }
    }

    private static void hasRoomForLawsAgain() {
        String law = "bad when 1" + "+1".repeat(740) + "=741;";
        String text = "mix m ripe 0 stale 9;part p of m takes 1 wide 9;size a cures 1;needs a 1 p;";
        TyreWorks x = new TyreWorks();
        for (int n = 0; n < 9; n++) {
            Check.due("a long law", Check.works(x, law), 1);
            Check.due("a faulty one", Check.works(x, law + "x"), NONE);
        }
        Check.due("told", Check.works(x, text + "press x;mould ma of a lives 9;bad when 1=2;bad when lay=0;"), 8);
        x.mix(0, 9);
        x.cut(0, 0, 9);
        x.mount(0, 0);
        x.build(0);
        x.cure(0);
        x.hours(1);
        Check.due("the second law", x.law(0), 1);
    }

    private static void takesAsManyAsMayBe() {
        StringBuilder text = new StringBuilder();
        for (char c = 'a'; c < 'g'; c++) {
            text.append("mix m").append(c).append(" ripe 0 stale 9;");
            text.append("size s").append(c).append(" cures 1;");
        }
        for (char c = 'a'; c < 'i'; c++) {
            text.append("part p").append(c).append(" of ma takes 99 wide 1;");
            text.append("mould u").append(c).append(" of sa lives 99;order sf 1 by 0;bad when all;");
        }
        for (char c = 'a'; c < 'e'; c++) {
            text.append("press r").append(c).append(";");
        }
        TyreWorks x = Check.told(text.toString());
        int[] due = {6, 8, 6, 4, 8, 8, 8};
        for (int what = 0; what < due.length; what++) {
            Check.due("full has " + what, x.has(what), due[what]);
        }
        Check.due("last mould", x.letter(4, 7, 1), 'h');
        Check.due("last size's change", x.change(5, 0), 1);
        Check.due("last part", x.needs(5, 7), 0);
    }
}
