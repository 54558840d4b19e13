/** Promise 5: every fault and its place; in the texts here ^ stands ahead of the place (it is no part of the text). */
public final class FaultTest {
    private static final String START = "mix m ripe 0 stale 9;part p of m takes 1 wide 2;size s cures 1;size t cures 2;";

    public static void main(String[] args) {
        firstFault();
        wordsAndNumbers();
        namesGiven();
        namesAsked();
        numbers();
        tooMany();
        tests();
        brackets();
        firstAlongTheText();
        answersOthers();
        Check.close();
    }

    private static void fault(int due, String marked) {
        int place = marked.indexOf('^');
        String text = marked.substring(0, place) + marked.substring(place + 1);
        TyreWorks x = new TyreWorks();
        Check.due("works of " + marked, Check.works(x, text), TyreWorks.NONE);
        Check.due("fault of " + marked, x.fault(0), due);
        Check.due("place of " + marked, x.fault(1), place);
        Check.due("refusals of " + marked, x.status(1), 1);
    }

    private static void firstFault() {
        fault(1, "^;");
        fault(1, "^a b;");
        fault(1, "^7;");
        fault(1, "^ripe 7;");
        fault(1, "mix^");
        fault(1, "mix ^");
        fault(1, "mix m ripe 0 stale 9^");
        fault(1, "mix m ripe 0 stale 9  \n^");
        fault(1, "press a;^;");
        fault(1, "press a ^b;");
        fault(1, "press a;^\t");
        fault(1, "press a;^" + (char) 200);
        fault(1, "press a;^" + (char) 0);
        fault(1, "press ^Ab;");
        fault(1, "press a^B;");
        fault(1, "press a^_b;");
        fault(1, "press ^press;");
        fault(1, "press ^all;");
        fault(1, "press ^splice;");
        fault(1, "press ^12;");
        fault(1, "mix m ^of 1;");
        fault(1, "mix m ripe ^x;");
        fault(1, "mix m ripe 1 stale ^-1;");
        fault(1, "bad ^all;");
        fault(1, "sheet 3 ^3;");
        fault(1, "rests 3 ^;");
        fault(1, START + "order s 3 ^9;");
        fault(1, START + "needs s ^p;");
        fault(1, START + "needs ^2 p;");
        fault(1, START + "change s t ^;");
        fault(1, START + "mould x of ^mix lives 2;");
        fault(1, START + "part x ^takes;");
    }

    private static void wordsAndNumbers() {
        fault(1, "^mixa m;");
        fault(1, "change^s");
        fault(1, "press abcdef^g;");
        fault(1, "press abcdef^ghijkl;");
        fault(1, "mix m ripe abcdef^g;");
        fault(1, "press a abcdef^g;");
        fault(1, "mix m ripe 1234^5;");
        fault(1, "press 1234^5;");
        fault(1, "1234^56;");
        fault(1, "sheet 0000^1 splice 2;");
        fault(1, "sheet^1 splice 2;");
        fault(1, "sheet 1^splice 2;");
        fault(1, "sheet 1 splice^2;");
        fault(1, "press a^1;");
        fault(1, "bad when 1<2^and all;");
        fault(1, "bad when old^2;");
        TyreWorks x = new TyreWorks();
        Check.due("six letters", Check.works(x, "press abcdef;"), 1);
        Check.due("four digits", Check.works(x, "sheet 0400 splice 0009;"), 1);
    }

    private static void namesGiven() {
        fault(2, "press a;press ^a;");
        fault(2, START + "mix ^p ripe;");
        fault(2, START + "part ^m of;");
        fault(2, START + "size ^s cures;");
        fault(2, START + "press ^t;");
        fault(2, START + "press x;mould ^x of s lives 2;");
        fault(2, START + "mould x of s lives 2;size ^x cures 1;");
    }

    private static void namesAsked() {
        fault(3, "part p of ^m takes;");
        fault(3, START + "part x of ^p takes;");
        fault(3, START + "part x of ^x takes;");
        fault(3, START + "mould x of ^m lives;");
        fault(3, START + "mould x of ^x lives;");
        fault(3, START + "order ^m 1 by 2;");
        fault(3, START + "needs ^p 1 p;");
        fault(3, START + "needs s 1 ^s;");
        fault(3, START + "needs s 1 p;needs t 1 p;needs s 2 ^p;");
        fault(3, START + "change ^u s 1;");
        fault(3, START + "change s ^u 1;");
        fault(3, START + "change s ^s 1;");
        fault(3, "order ^s 1 by 2;size s cures 1;");
    }

    private static void numbers() {
        fault(4, "mix m ripe ^1000 stale 1000;");
        fault(4, "mix m ripe 999 stale ^1000;");
        fault(4, "mix m ripe 5 stale ^4;");
        fault(4, START + "part x of m takes ^0 wide 1;");
        fault(4, START + "part x of m takes ^100 wide 1;");
        fault(4, START + "part x of m takes 99 wide ^0;");
        fault(4, START + "part x of m takes 1 wide ^100;");
        fault(4, "size s cures ^0;");
        fault(4, "size s cures ^100;");
        fault(4, START + "needs s ^0 p;");
        fault(4, START + "needs s ^10 p;");
        fault(4, START + "change s t ^100;");
        fault(4, START + "mould x of s lives ^0;");
        fault(4, START + "mould x of s lives ^100;");
        fault(4, START + "order s ^0 by 1;");
        fault(4, START + "order s ^61 by 1;");
        fault(4, "sheet ^0 splice 1;");
        fault(4, "sheet ^401 splice 1;");
        fault(4, "sheet 400 splice ^10;");
        fault(4, "rests ^1000 1000;");
        fault(4, "rests 999 ^1000;");
        fault(4, "rests 7 ^6;");
        Check.told("rests 7 7;rests 999 999;sheet 1 splice 9;mix m ripe 999 stale 999;mix n ripe 0 stale 0;");
        Check.told(START + "part x of m takes 99 wide 99;size u cures 99;needs s 9 p;change s t 0;change t s 99;");
        Check.told(START + "mould x of s lives 99;order s 60 by 9999;order s 1 by 0;");
    }

    private static void tooMany() {
        StringBuilder mixes = new StringBuilder();
        StringBuilder sizes = new StringBuilder();
        StringBuilder changes = new StringBuilder(START);
        for (char c = 'a'; c < 'g'; c++) {
            mixes.append("mix m").append(c).append(" ripe 0 stale 9;");
            sizes.append("size s").append(c).append(" cures 1;");
        }
        for (int n = 0; n < 30; n++) {
            changes.append("change s t 2;");
        }
        fault(5, mixes + "^mix");
        fault(5, sizes + " ^size s cures 1;");
        fault(5, changes + "^change 3");
        fault(5, "press a;press b;press c;press d;^press e;");
        fault(5, eight("mix m ripe 0 stale 1;", "part p# of m takes 1 wide 1;") + "^part");
        fault(5, eight("size s cures 1;", "mould p# of s lives 1;") + "^mould");
        fault(5, eight("size s cures 1;", "order s 1 by 1;") + "^order");
        fault(5, eight("", "bad when all;") + "^bad when all;");
        fault(5, eight("mix m ripe 0 stale 1;size a cures 1;size b cures 1;size c cures 1;size d cures 1;",
                "part p# of m takes 1 wide 1;needs a 1 p#;needs b 1 p#;needs c 1 p#;") + "^needs d 1 pa;");
        Check.told("sheet 1 splice 1;".repeat(40) + "rests 1 2;".repeat(40));
        Check.told(changes.toString());
    }

    private static String eight(String start, String each) {
        StringBuilder text = new StringBuilder(start);
        for (char c = 'a'; c < 'i'; c++) {
            text.append(each.replace('#', c));
        }
        return text.toString();
    }

    private static void tests() {
        fault(1, "bad when ^;");
        fault(1, "bad when^");
        fault(1, "bad when ^foo=1;");
        fault(1, "bad when ^ripe=1;");
        fault(1, "bad when 1^;");
        fault(1, "bad when 1=^;");
        fault(1, "bad when 1=2^=3;");
        fault(1, "bad when 1+^+2=3;");
        fault(1, "bad when ^-1=3;");
        fault(1, "bad when 1=2 and ^;");
        fault(1, "bad when 1=2 or ^or all;");
        fault(1, "bad when 1=2 ^not all;");
        fault(1, "bad when not ^;");
        fault(1, "bad when all^=1;");
        fault(1, "bad when all ^all;");
        fault(1, "bad when [all^;");
        fault(1, "bad when [all^);");
        fault(1, "bad when [1^];");
        fault(1, "bad when (^all)=1;");
        fault(1, "bad when (1^=1);");
        fault(1, "bad when (1)^;");
        fault(1, "bad when (1^];");
        fault(1, "bad when (^[all])=1;");
        fault(1, "bad when min^=1;");
        fault(1, "bad when min(1^)=1;");
        fault(1, "bad when max(1,2^,3)=1;");
        fault(1, "bad when max(^,2)=1;");
        fault(1, "bad when min^[1,2]=1;");
        fault(1, "bad when 1<^=2;");
        fault(1, "bad when 1^!2;");
        fault(1, "bad when all or^_;");
        Check.told("bad when not not not all;bad when not[1=1 or all]and not 2>1;bad when((1))=(min(1,max(2,3)));");
        Check.told("bad when old+worn-at*kind/lay%9999<0;");
        Check.told("bad when " + "not ".repeat(390) + "all;");
    }

    private static void brackets() {
        String eight = "bad when [[[[((((1))))=1]]]];";
        Check.told(eight);
        Check.told(eight + eight);
        Check.told("bad when [[[[[[[[all]]]]]]]] and [all] and ((((((((1))))))))=1;");
        Check.told("bad when min(1,min(1,min(1,min(1,min(1,min(1,min(1,max(1,2))))))))=1;");
        fault(5, "bad when [[[[[[[[^[all]]]]]]]]];");
        fault(5, "bad when ((((((((^(1)))))))))=1;");
        fault(5, "bad when [[[[((((^(");
        fault(5, "bad when [[[[min((max(1,(min^(");
        fault(1, "bad when [[[[[[[[1=1^[");
        fault(1, "bad when ((((((((1^(");
        fault(1, "bad when ((((((((min^[");
    }

    private static void firstAlongTheText() {
        fault(2, "press a;press ^a abcdefgh;");
        fault(2, "press a;press ^a1;");
        fault(3, "order ^zz1 by;");
        fault(4, "sheet ^999x;");
        fault(1, "press a^1;press a;");
        fault(3, START + "change s ^s 100;");
        fault(4, START + "needs s ^0 s;");
        fault(3, "order ^s 99 by 1;");
        fault(1, START + "order s ^by 1;order zz;");
    }

    private static void answersOthers() {
        TyreWorks x = new TyreWorks();
        Check.works(x, "press;");
        Check.due("fault(0)", x.fault(0), 1);
        Check.due("fault(2)", x.fault(2), TyreWorks.NONE);
        Check.due("fault(-1)", x.fault(-1), TyreWorks.NONE);
        Check.works(x, "press a;press a;");
        Check.due("the latest fault", x.fault(0), 2);
        Check.due("the latest place", x.fault(1), 14);
    }
}
