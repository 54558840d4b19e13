/** Terms I, what a TEST of a LAW comes to, sentence by sentence, where one names a boundary. */
public final class EdgeLawTest {
    private static final String START = "mix m ripe 0 stale 999;mix n ripe 0 stale 999;part p of m takes 1 wide 1;"
            + "part q of n takes 1 wide 1;size s cures 2;size t cures 1;needs s 1 p;needs t 2 q;needs t 1 p;change s t 3;"
            + "press ra;press rb;mould u of s lives 9;mould v of t lives 9;";

    public static void main(String[] args) {
        orAndNot();
        signs();
        allFromTheLeft();
        greatestWholeNumber();
        whatThenLacks();
        byNothing();
        sumsAboveAMillion();
        differencesBelowAMillion();
        productsAboveAMillion();
        leastAndGreatest();
        old();
        worn();
        atAndKind();
        lay();
        Check.close();
    }

    /** Two cured tyres: 0 of s (old 1, worn 0, at 0, kind 0, lay 0), 1 of t (old 7, worn 0, at 1, kind 1, lay 2). */
    private static TyreWorks cured(String laws) {
        TyreWorks x = Check.told(START + laws);
        x.mix(0, 99);
        x.cut(0, 0, 20);
        x.mount(0, 0);
        x.mount(1, 1);
        x.build(0);
        x.cure(0);
        x.mix(1, 99);
        x.hours(2);
        x.cut(1, 1, 20);
        x.build(1);
        x.hours(2);
        x.cure(1);
        x.hours(1);
        return x;
    }

    private static void holds(String test, boolean due) {
        TyreWorks x = cured("bad when " + test + ";");
        Check.due(test, x.law(1), due ? 0 : TyreWorks.NONE);
        Check.due("whether it is BAD by " + test, x.tyre(1, 8), due ? 1 : 0);
    }

    private static void is(String sum, int due) {
        String number = due >= 0 ? "" + due : due > -10000 ? "0-" + -due : "0-" + -due / 1000 + "*1000-" + -due % 1000;
        if (due >= 10000) {
            number = due / 1000 + "*1000+" + due % 1000;
        }
        holds(sum + "=" + number, true);
        holds(sum + "<" + number, false);
        holds(sum + ">" + number, false);
        holds(number + "=" + sum, true);
    }

    private static void orAndNot() {
        Check.says("TEST: BOTH { or BOTH }. BOTH: FACT { and FACT }. FACT: not FACT; [ TEST ] ; all; SUM SIGN SUM");
        String[] facts = {"1=2", "all"};
        for (int n = 0; n < 8; n++) {
            boolean a = (n & 1) != 0;
            boolean b = (n & 2) != 0;
            boolean c = (n & 4) != 0;
            String one = facts[n & 1];
            String two = facts[n >> 1 & 1];
            String three = facts[n >> 2];
            holds(one + " or " + two + " or " + three, a || b || c);
            holds(one + " and " + two + " and " + three, a && b && c);
            holds(one + " or " + two + " and " + three, a || b && c);
            holds(one + " and " + two + " or " + three, a && b || c);
            holds("[" + one + " or " + two + "]and " + three, (a || b) && c);
            holds(one + " and[" + two + " or " + three + "]", a && (b || c));
            holds("not " + one + " and " + two, !a && b);
            holds("not " + one + " or " + two, !a || b);
            holds("not[" + one + " and " + two + "]", !(a && b));
            holds("not[" + one + " or " + two + "]or " + three, !(a || b) || c);
            holds("not not " + one, a);
            holds("not not not " + one + " and not " + two, !a && !b);
        }
    }

    private static void signs() {
        Check.says("SIGN being < or > or =");
        int[] numbers = {0, 1, 2, 9998, 9999};
        for (int a : numbers) {
            for (int b : numbers) {
                holds(a + "<" + b, a < b);
                holds(a + ">" + b, a > b);
                holds(a + "=" + b, a == b);
                holds("0-" + a + "<" + b, -a < b);
                holds("0-" + a + ">0-" + b, -a > -b);
            }
        }
    }

    private static void allFromTheLeft() {
        Check.says("All from the left on");
        is("10-3-2", 5);
        is("10-3+2", 9);
        is("100/7/2", 7);
        is("100/7*2", 28);
        is("100*2/7", 28);
        is("100%7*3", 6);
        is("3*100%7", 6);
        is("2+3*4", 14);
        is("2*3+4", 10);
        is("2+3*4-5%3", 12);
        is("1-(2-3)", 2);
        is("9999*9999-9999*9999+1", 1);
    }

    private static void greatestWholeNumber() {
        Check.says("/ gives the greatest whole number not above");
        is("6/3", 2);
        is("7/3", 2);
        is("8/3", 2);
        is("9/3", 3);
        is("2/3", 0);
        is("0/3", 0);
        is("(0-1)/3", -1);
        is("(0-3)/3", -1);
        is("(0-4)/3", -2);
        is("1/(0-3)", -1);
        is("3/(0-3)", -1);
        is("4/(0-3)", -2);
        is("(0-4)/(0-3)", 1);
        is("(0-2)/(0-3)", 0);
        is("9999/1", 9999);
        is("9999/9999", 1);
    }

    private static void whatThenLacks() {
        Check.says("% what then lacks");
        is("6%3", 0);
        is("7%3", 1);
        is("2%3", 2);
        is("0%3", 0);
        is("(0-1)%3", 2);
        is("(0-3)%3", 0);
        is("(0-4)%3", 2);
        is("1%(0-3)", -2);
        is("3%(0-3)", 0);
        is("4%(0-3)", -2);
        is("(0-4)%(0-3)", -1);
        is("(0-2)%(0-3)", -2);
        is("9999%1", 0);
    }

    private static void byNothing() {
        Check.says("(by 0 both give 0)");
        for (String left : new String[] {"0", "1", "9999", "(0-1)", "old", "9999*9999"}) {
            is(left + "/0", 0);
            is(left + "%0", 0);
            is(left + "/(1-1)", 0);
            is(left + "%at%1", 0);
        }
        is("7/0+5", 5);
        is("7%0+5", 5);
    }

    private static void sumsAboveAMillion() {
        Check.says("each sum, difference, product above 10 to the 6 is that");
        is("999*1000+999", 999999);
        is("999*1000+1000", 1000000);
        is("999*1000+1001", 1000000);
        is("999*1000+9999", 1000000);
        is("1000*1000+1", 1000000);
        is("1000*1000+1000*1000", 1000000);
        is("1000*1000+1-1", 999999);
        is("1000*1000-1+1", 1000000);
        is("1000*1000+1000*1000-1000*1000", 0);
        is("1000*1000-(0-1)", 1000000);
        is("1000*1000-(0-1000*1000)", 1000000);
    }

    private static void differencesBelowAMillion() {
        Check.says("below -10 to the 6 likewise");
        is("0-999*1000-999", -999999);
        is("0-999*1000-1000", -1000000);
        is("0-999*1000-1001", -1000000);
        is("0-1000*1000-1", -1000000);
        is("0-1000*1000-1+1", -999999);
        is("0-1000*1000-1000*1000+1000*1000", 0);
        is("(0-1000*1000)+(0-1)", -1000000);
        is("(0-1000*1000)+(0-1000*1000)", -1000000);
        is("(0-1000)*1000", -1000000);
        is("(0-1000)*1001", -1000000);
        is("1001*(0-1000)", -1000000);
        is("(0-1000*1000)*(1000*1000)", -1000000);
    }

    private static void productsAboveAMillion() {
        Check.says("each sum, difference, product above 10 to the 6 is that, below -10 to the 6 likewise.");
        is("999*1001", 999999);
        is("1000*1000", 1000000);
        is("1001*1000", 1000000);
        is("9999*9999", 1000000);
        is("9999*9999*9999*9999", 1000000);
        is("1000*1000*(1000*1000)", 1000000);
        is("(0-1000*1000)*(0-1000*1000)", 1000000);
        is("(0-1000)*(0-1001)", 1000000);
        is("9999*9999/1000", 1000);
        is("9999*9999%999", 1);
        is("9999*9999*0", 0);
        is("1000*1000/(0-1)", -1000000);
    }

    private static void leastAndGreatest() {
        Check.says("min ( SUM , SUM ) ; max ( SUM , SUM )");
        is("min(3,4)", 3);
        is("min(4,3)", 3);
        is("min(3,3)", 3);
        is("max(3,4)", 4);
        is("max(4,3)", 4);
        is("max(0-3,0-4)", -3);
        is("min(0-3,0-4)", -4);
        is("min(2+3,2*3)*max(1,min(2,9))", 10);
    }

    private static void old() {
        Check.says("old: the greatest age that a BATCH in it had in the HOUR in which it was built");
        is("old", 7);
        TyreWorks x = cured("bad when old=1;bad when old=7;");
        Check.due("of the first one", x.law(0), 0);
        Check.due("of the second one", x.law(1), 1);
        Check.due("of the older one of two", x.tyre(1, 4), 7);
        Check.due("the younger one", x.batch(1, 2), x.batch(0, 2) - 1);
        x.hours(9);
        Check.due("no older later", x.tyre(1, 4), 7);
        Check.due("no older later", x.law(1), 1);
    }

    private static void worn() {
        Check.says("worn: how many CURES its MOULD had had since it was clean, ahead of this one");
        TyreWorks x = cured("bad when worn=2;bad when worn=1;bad when worn=0;");
        for (int n = 2; n < 5; n++) {
            x.build(0);
            x.cure(0);
            x.hours(2);
            Check.due("worn " + n, x.tyre(n, 5), n - 1);
        }
        Check.due("none ahead", x.law(0), 2);
        Check.due("one ahead", x.law(2), 1);
        Check.due("two ahead", x.law(3), 0);
        Check.due("three ahead", x.law(4), TyreWorks.NONE);
        x.clean(0);
        x.build(0);
        x.cure(0);
        x.hours(2);
        Check.due("none since it was clean", x.law(5), 2);
    }

    private static void atAndKind() {
        Check.says("at, kind: the numbers of its PRESS, its SIZE");
        is("at", 1);
        is("kind", 1);
        TyreWorks x = cured("bad when at=1;bad when kind=0;");
        Check.due("of the first one", x.law(0), 1);
        Check.due("of the second one", x.law(1), 0);
    }

    private static void lay() {
        Check.says("lay: hours from when it was built to its CURE");
        is("lay", 2);
        TyreWorks x = cured("bad when lay=0;bad when lay=2;");
        Check.due("at once", x.law(0), 0);
        Check.due("two hours", x.law(1), 1);
        x.hours(5);
        Check.due("no longer later", x.tyre(1, 7), 2);
    }
}
