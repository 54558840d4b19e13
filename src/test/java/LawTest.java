/** Promises 29 and 30: which tyres are bad, by which law; tyre(.., 8) with them. */
public final class LawTest {
    private static final int NONE = TyreWorks.NONE;
    private static final String START = "mix m ripe 0 stale 999;part p of m takes 1 wide 9;size z cures 1;size a cures 1;"
            + "needs a 1 p;needs z 1 p;press w;press x;press y;mould ma of a lives 9;mould mz of z lives 9;";

    public static void main(String[] args) {
        facts();
        sums();
        bounds();
        tests();
        deep();
        firstLaw();
        counts();
        onlyCured();
        Check.close();
    }

    /** One cured tyre with old 7, worn 2, at 1, kind 1, lay 3 (tyre 2). */
    private static TyreWorks cured(String laws) {
        TyreWorks x = Check.told(START + laws);
        x.mix(0, 99);
        x.cut(0, 0, 9);
        x.mount(1, 0);
        for (int n = 0; n < 2; n++) {
            x.build(1);
            x.cure(1);
            x.hours(1);
        }
        x.hours(2);
        x.build(1);
        x.hours(3);
        Check.due("cure", x.cure(1), 2);
        x.hours(1);
        Check.due("old", x.tyre(2, 4), 7);
        Check.due("worn", x.tyre(2, 5), 2);
        Check.due("at", x.tyre(2, 6), 1);
        Check.due("kind", x.tyre(2, 0), 1);
        Check.due("lay", x.tyre(2, 7), 3);
        return x;
    }

    private static void holds(String test, boolean due) {
        TyreWorks x = cured("bad when " + test + ";");
        Check.due("bad when " + test, x.tyre(2, 8), due ? 1 : 0);
        Check.due("law of " + test, x.law(2), due ? 0 : NONE);
    }

    private static void facts() {
        holds("old=7", true);
        holds("worn=2", true);
        holds("at=1", true);
        holds("kind=1", true);
        holds("lay=3", true);
        holds("old*1000+worn*100+at*10+lay=7213", true);
        holds("old>7", false);
        holds("old>6", true);
        holds("old<7", false);
        holds("old<8", true);
        holds("old=8", false);
        holds("all", true);
        holds("not all", false);
    }

    private static void value(String sum, int due) {
        holds(sum + "=" + (due < 0 ? "0-" + -due : "" + due), true);
    }

    private static void sums() {
        value("2+3*4", 14);
        value("(2+3)*4", 20);
        value("10-3-2", 5);
        value("10-(3-2)", 9);
        value("100/7/2", 7);
        value("100/(7/2)", 33);
        value("7%4*2", 6);
        value("2*7%4", 2);
        value("(0-7)/2", -4);
        value("(0-7)%2", 1);
        value("7/(0-2)", -4);
        value("7%(0-2)", -1);
        value("(0-7)/(0-2)", 3);
        value("(0-7)%(0-2)", -1);
        value("7/0", 0);
        value("7%0", 0);
        value("(0-7)/(1-1)", 0);
        value("min(3,5)", 3);
        value("max(3,5)", 5);
        value("min(0-3,max(1,2)*3)", -3);
        value("max(old,lay)-min(worn,at)", 6);
        value("0012", 12);
    }

    private static void bounds() {
        holds("9999*9999=1000*1000", true);
        holds("1000*1000>999*1001", true);
        holds("1000*1000+1=1000*1000", true);
        holds("9999*9999-1=999*1000+999", true);
        holds("0-9999*9999=0-1000*1000", true);
        holds("0-9999*9999-5+5=5-1000*1000", true);
        holds("(0-9999)*9999+1=1-1000*1000", true);
        holds("9999*9999*9999*(0-1)=0-1000*1000", true);
        holds("9999*9999/(0-1)=0-1000*1000", true);
        holds("999999=1", false, 1);
    }

    /** A test that is no text of works at all. */
    private static void holds(String test, boolean due, int fault) {
        TyreWorks x = new TyreWorks();
        Check.due("works of " + test, Check.works(x, "bad when " + test + ";"), NONE);
        Check.due("fault of " + test, x.fault(0), fault);
    }

    private static void tests() {
        holds("1=1 or 1=1 and 1=2", true);
        holds("[1=1 or 1=1]and 1=2", false);
        holds("1=2 and 1=1 or 1=1", true);
        holds("1=2 and[1=1 or 1=1]", false);
        holds("not 1=2 and 1=2", false);
        holds("not[1=2 and 1=2]", true);
        holds("not 1=1 or 1=1", true);
        holds("not[1=1 or 1=1]", false);
        holds("not not 1=1", true);
        holds("not not not 1=1", false);
        holds("not not[not all]", false);
        holds("1=2 or 1=3 or 1=1", true);
        holds("1=1 and 2=2 and 3=4", false);
        holds("[[all]and[not[1>2]]]", true);
        holds("old>25 and not kind=2", false);
        holds("worn*at>1 or lay>20", true);
        holds("not " + "not ".repeat(200) + "1=1", false);
    }

    private static void deep() {
        holds("all and[all and[all and[all and 0+1*(0+1*(0+1*min(1,0+1*(5))))=1]]]", true);
        holds("1=2 or all and[1=2 or all and[1=2 or all and[1=2 or all and[1=2 or all and[1=2 or all and"
                + "[1=2 or all and[1=2 or all and 1+2*3=7]]]]]]]", true);
        holds("0-1*min(9,1+1*min(9,1+1*min(9,1+1*min(9,1+1*min(9,1+1*min(9,1+1*min(9,1+1*min(9,1))))))))=0-8", true);
    }

    private static void firstLaw() {
        TyreWorks x = cured("bad when old=1;bad when lay=3;bad when all;");
        Check.due("the second", x.law(2), 1);
        Check.due("the first", x.law(0), 0);
        Check.due("the third", x.law(1), 2);
        Check.due("no such", x.law(3), NONE);
        Check.due("no such", x.law(-1), NONE);
        x = cured("");
        Check.due("no laws", x.law(2), NONE);
        Check.due("good", x.tyre(2, 8), 0);
        Check.due("none bad", x.bad(NONE), 0);
        StringBuilder laws = new StringBuilder();
        for (int n = 0; n < 7; n++) {
            laws.append("bad when old>900;");
        }
        Check.due("the eighth", cured(laws + "bad when worn>1;").law(2), 7);
    }

    private static void counts() {
        TyreWorks x = cured("bad when worn>0;");
        x.mount(0, 1);
        x.build(0);
        x.build(0);
        x.cure(0);
        x.hours(1);
        x.cure(0);
        x.hours(1);
        Check.due("of z", x.bad(0), 1);
        Check.due("of a", x.bad(1), 2);
        Check.due("of any", x.bad(NONE), 3);
        Check.due("no such", x.bad(2), NONE);
        Check.due("no such", x.bad(-2), NONE);
        x.scrap(2);
        Check.due("a scrapped one is none", x.bad(1), 1);
        Check.due("nor of any", x.bad(NONE), 2);
        Check.due("any of a new object", new TyreWorks().bad(NONE), 0);
        Check.due("none of a new object", new TyreWorks().bad(0), NONE);
    }

    private static void onlyCured() {
        TyreWorks x = Check.told(START + "bad when all;");
        x.mix(0, 9);
        x.cut(0, 0, 9);
        x.mount(0, 0);
        x.build(1);
        Check.due("green", x.law(0), NONE);
        Check.due("green", x.tyre(0, 8), NONE);
        x.cure(0);
        Check.due("in", x.law(0), NONE);
        Check.due("in", x.bad(NONE), 0);
        x.hours(1);
        Check.due("cured", x.law(0), 0);
        Check.due("cured", x.tyre(0, 8), 1);
        x.scrap(0);
        Check.due("scrapped", x.law(0), NONE);
        Check.due("scrapped", x.tyre(0, 8), NONE);
    }
}
