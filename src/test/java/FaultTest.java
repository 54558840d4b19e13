/** Promise 5: every fault and its place; in the texts here ^ stands ahead of the place (it is no part of the text). */
public final class FaultTest {
    private static final String START = "mix m ripe 0 stale 9;part p of m takes 1 wide 2;size s cures 1;size t cures 2;";

    public static void main(String[] args) {
        firstFault();
        wordsAndNumbers();
        namesGiven();
        namesAsked();
        numbers();
        tooMany();
        tests();
        brackets();
        firstAlongTheText();
        answersOthers();
        Check.close();
    }

    private static void firstFault() {
        Check.fault(1, "^;");
        Check.fault(1, "^a b;");
        Check.fault(1, "^7;");
        Check.fault(1, "^ripe 7;");
        Check.fault(1, "mix^");
        Check.fault(1, "mix ^");
        Check.fault(1, "mix m ripe 0 stale 9^");
        Check.fault(1, "mix m ripe 0 stale 9  \n^");
        Check.fault(1, "press a;^;");
        Check.fault(1, "press a ^b;");
        Check.fault(1, "press a;^\t");
        Check.fault(1, "press a;^" + (char) 200);
        Check.fault(1, "press a;^" + (char) 0);
        Check.fault(1, "press ^Ab;");
        Check.fault(1, "press a^B;");
        Check.fault(1, "press a^_b;");
        Check.fault(1, "press ^press;");
        Check.fault(1, "press ^all;");
        Check.fault(1, "press ^splice;");
        Check.fault(1, "press ^12;");
        Check.fault(1, "mix m ^of 1;");
        Check.fault(1, "mix m ripe ^x;");
        Check.fault(1, "mix m ripe 1 stale ^-1;");
        Check.fault(1, "bad ^all;");
        Check.fault(1, "sheet 3 ^3;");
        Check.fault(1, "rests 3 ^;");
        Check.fault(1, START + "order s 3 ^9;");
        Check.fault(1, START + "needs s ^p;");
        Check.fault(1, START + "needs ^2 p;");
        Check.fault(1, START + "change s t ^;");
        Check.fault(1, START + "mould x of ^mix lives 2;");
        Check.fault(1, START + "part x ^takes;");
    }

    private static void wordsAndNumbers() {
        Check.fault(1, "^mixa m;");
        Check.fault(1, "change^s");
        Check.fault(1, "press abcdef^g;");
        Check.fault(1, "press abcdef^ghijkl;");
        Check.fault(1, "mix m ripe abcdef^g;");
        Check.fault(1, "press a abcdef^g;");
        Check.fault(1, "mix m ripe 1234^5;");
        Check.fault(1, "press 1234^5;");
        Check.fault(1, "1234^56;");
        Check.fault(1, "sheet 0000^1 splice 2;");
        Check.fault(1, "sheet^1 splice 2;");
        Check.fault(1, "sheet 1^splice 2;");
        Check.fault(1, "sheet 1 splice^2;");
        Check.fault(1, "press a^1;");
        Check.fault(1, "bad when 1<2^and all;");
        Check.fault(1, "bad when old^2;");
        TyreWorks x = new TyreWorks();
        Check.due("six letters", Check.works(x, "press abcdef;"), 1);
        Check.due("four digits", Check.works(x, "sheet 0400 splice 0009;"), 1);
    }

    private static void namesGiven() {
        Check.fault(2, "press a;press ^a;");
        Check.fault(2, START + "mix ^p ripe;");
        Check.fault(2, START + "part ^m of;");
        Check.fault(2, START + "size ^s cures;");
        Check.fault(2, START + "press ^t;");
        Check.fault(2, START + "press x;mould ^x of s lives 2;");
        Check.fault(2, START + "mould x of s lives 2;size ^x cures 1;");
    }

    private static void namesAsked() {
        Check.fault(3, "part p of ^m takes;");
        Check.fault(3, START + "part x of ^p takes;");
        Check.fault(3, START + "part x of ^x takes;");
        Check.fault(3, START + "mould x of ^m lives;");
        Check.fault(3, START + "mould x of ^x lives;");
        Check.fault(3, START + "order ^m 1 by 2;");
        Check.fault(3, START + "needs ^p 1 p;");
        Check.fault(3, START + "needs s 1 ^s;");
        Check.fault(3, START + "needs s 1 p;needs t 1 p;needs s 2 ^p;");
        Check.fault(3, START + "change ^u s 1;");
        Check.fault(3, START + "change s ^u 1;");
        Check.fault(3, START + "change s ^s 1;");
        Check.fault(3, "order ^s 1 by 2;size s cures 1;");
    }

    private static void numbers() {
        Check.fault(4, "mix m ripe ^1000 stale 1000;");
        Check.fault(4, "mix m ripe 999 stale ^1000;");
        Check.fault(4, "mix m ripe 5 stale ^4;");
        Check.fault(4, START + "part x of m takes ^0 wide 1;");
        Check.fault(4, START + "part x of m takes ^100 wide 1;");
        Check.fault(4, START + "part x of m takes 99 wide ^0;");
        Check.fault(4, START + "part x of m takes 1 wide ^100;");
        Check.fault(4, "size s cures ^0;");
        Check.fault(4, "size s cures ^100;");
        Check.fault(4, START + "needs s ^0 p;");
        Check.fault(4, START + "needs s ^10 p;");
        Check.fault(4, START + "change s t ^100;");
        Check.fault(4, START + "mould x of s lives ^0;");
        Check.fault(4, START + "mould x of s lives ^100;");
        Check.fault(4, START + "order s ^0 by 1;");
        Check.fault(4, START + "order s ^61 by 1;");
        Check.fault(4, "sheet ^0 splice 1;");
        Check.fault(4, "sheet ^401 splice 1;");
        Check.fault(4, "sheet 400 splice ^10;");
        Check.fault(4, "rests ^1000 1000;");
        Check.fault(4, "rests 999 ^1000;");
        Check.fault(4, "rests 7 ^6;");
        Check.told("rests 7 7;rests 999 999;sheet 1 splice 9;mix m ripe 999 stale 999;mix n ripe 0 stale 0;");
        Check.told(START + "part x of m takes 99 wide 99;size u cures 99;needs s 9 p;change s t 0;change t s 99;");
        Check.told(START + "mould x of s lives 99;order s 60 by 9999;order s 1 by 0;");
    }

    private static void tooMany() {
        StringBuilder mixes = new StringBuilder();
        StringBuilder sizes = new StringBuilder();
        StringBuilder changes = new StringBuilder(START);
        for (char c = 'a'; c < 'g'; c++) {
            mixes.append("mix m").append(c).append(" ripe 0 stale 9;");
            sizes.append("size s").append(c).append(" cures 1;");
        }
        for (int n = 0; n < 30; n++) {
            changes.append("change s t 2;");
        }
        Check.fault(5, mixes + "^mix");
        Check.fault(5, sizes + " ^size s cures 1;");
        Check.fault(5, changes + "^change 3");
        Check.fault(5, "press a;press b;press c;press d;^press e;");
        Check.fault(5, eight("mix m ripe 0 stale 1;", "part p# of m takes 1 wide 1;") + "^part");
        Check.fault(5, eight("size s cures 1;", "mould p# of s lives 1;") + "^mould");
        Check.fault(5, eight("size s cures 1;", "order s 1 by 1;") + "^order");
        Check.fault(5, eight("", "bad when all;") + "^bad when all;");
        Check.fault(5, eight("mix m ripe 0 stale 1;size a cures 1;size b cures 1;size c cures 1;size d cures 1;",
                "part p# of m takes 1 wide 1;needs a 1 p#;needs b 1 p#;needs c 1 p#;") + "^needs d 1 pa;");
        Check.told("sheet 1 splice 1;".repeat(40) + "rests 1 2;".repeat(40));
        Check.told(changes.toString());
    }

    private static String eight(String start, String each) {
        StringBuilder text = new StringBuilder(start);
        for (char c = 'a'; c < 'i'; c++) {
            text.append(each.replace('#', c));
        }
        return text.toString();
    }

    private static void tests() {
        Check.fault(1, "bad when ^;");
        Check.fault(1, "bad when^");
        Check.fault(1, "bad when ^foo=1;");
        Check.fault(1, "bad when ^ripe=1;");
        Check.fault(1, "bad when 1^;");
        Check.fault(1, "bad when 1=^;");
        Check.fault(1, "bad when 1=2^=3;");
        Check.fault(1, "bad when 1+^+2=3;");
        Check.fault(1, "bad when ^-1=3;");
        Check.fault(1, "bad when 1=2 and ^;");
        Check.fault(1, "bad when 1=2 or ^or all;");
        Check.fault(1, "bad when 1=2 ^not all;");
        Check.fault(1, "bad when not ^;");
        Check.fault(1, "bad when all^=1;");
        Check.fault(1, "bad when all ^all;");
        Check.fault(1, "bad when [all^;");
        Check.fault(1, "bad when [all^);");
        Check.fault(1, "bad when [1^];");
        Check.fault(1, "bad when (^all)=1;");
        Check.fault(1, "bad when (1^=1);");
        Check.fault(1, "bad when (1)^;");
        Check.fault(1, "bad when (1^];");
        Check.fault(1, "bad when (^[all])=1;");
        Check.fault(1, "bad when min^=1;");
        Check.fault(1, "bad when min(1^)=1;");
        Check.fault(1, "bad when max(1,2^,3)=1;");
        Check.fault(1, "bad when max(^,2)=1;");
        Check.fault(1, "bad when min^[1,2]=1;");
        Check.fault(1, "bad when 1<^=2;");
        Check.fault(1, "bad when 1^!2;");
        Check.fault(1, "bad when all or^_;");
        Check.told("bad when not not not all;bad when not[1=1 or all]and not 2>1;bad when((1))=(min(1,max(2,3)));");
        Check.told("bad when old+worn-at*kind/lay%9999<0;");
        Check.told("bad when " + "not ".repeat(390) + "all;");
    }

    private static void brackets() {
        String eight = "bad when [[[[((((1))))=1]]]];";
        Check.told(eight);
        Check.told(eight + eight);
        Check.told("bad when [[[[[[[[all]]]]]]]] and [all] and ((((((((1))))))))=1;");
        Check.told("bad when min(1,min(1,min(1,min(1,min(1,min(1,min(1,max(1,2))))))))=1;");
        Check.fault(5, "bad when [[[[[[[[^[all]]]]]]]]];");
        Check.fault(5, "bad when ((((((((^(1)))))))))=1;");
        Check.fault(5, "bad when [[[[((((^(");
        Check.fault(5, "bad when [[[[min((max(1,(min^(");
        Check.fault(1, "bad when [[[[[[[[1=1^[");
        Check.fault(1, "bad when ((((((((1^(");
        Check.fault(1, "bad when ((((((((min^[");
    }

    private static void firstAlongTheText() {
        Check.fault(2, "press a;press ^a abcdefgh;");
        Check.fault(2, "press a;press ^a1;");
        Check.fault(3, "order ^zz1 by;");
        Check.fault(4, "sheet ^999x;");
        Check.fault(1, "press a^1;press a;");
        Check.fault(3, START + "change s ^s 100;");
        Check.fault(4, START + "needs s ^0 s;");
        Check.fault(3, "order ^s 99 by 1;");
        Check.fault(1, START + "order s ^by 1;order zz;");
    }

    private static void answersOthers() {
        TyreWorks x = new TyreWorks();
        Check.works(x, "press;");
        Check.due("Check.fault(0)", x.fault(0), 1);
        Check.due("Check.fault(2)", x.fault(2), TyreWorks.NONE);
        Check.due("fault(-1)", x.fault(-1), TyreWorks.NONE);
        Check.works(x, "press a;press a;");
        Check.due("the latest fault", x.fault(0), 2);
        Check.due("the latest place", x.fault(1), 14);
    }
}
