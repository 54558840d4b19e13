/** Terms I and promises 1 to 9, sentence by sentence, where one names a boundary: told texts and their faults. */
public final class EdgeTextTest {
    private static final int NONE = TyreWorks.NONE;
    private static final String OWN_WORDS = "mix, ripe, stale, part, of, takes, wide, size, cures, needs, change, press, mould, "
            + "lives, order, by, sheet, splice, rests, bad, when, or, and, not, all, old, worn, at, kind, lay, min, max";
    private static final String START = "mix m ripe 0 stale 9;part p of m takes 1 wide 2;part q of m takes 1 wide 2;"
            + "size s cures 1;size t cures 2;";

    public static void main(String[] args) {
        words();
        numbers();
        blanks();
        sideBySide();
        statements();
        hoursOfMixes();
        staleNotBelowRipe();
        sixMixes();
        poundsAndWidthsOfParts();
        eightParts();
        hoursOfSizes();
        sixSizes();
        numbersOfNeeds();
        eachPartNeededOnce();
        twentyFourNeeds();
        unlikeSizesToChange();
        hoursOfChanges();
        theLastChangeCounts();
        oneWithoutAChange();
        thirtyChanges();
        fourPresses();
        livesOfMoulds();
        eightMoulds();
        numbersOfOrders();
        eightOrders();
        widthsOfSheets();
        theLastSheetCounts();
        sheetsWithoutOneTold();
        hoursOfRests();
        theLastRestsCount();
        restsWithoutOnesTold();
        eightLaws();
        ownWordsAreNoNames();
        namesAreUnlike();
        namesAreToldAhead();
        firstFaultAlongTheText();
        wordsAndNumbersWhole();
        textsThatEndTooSoon();
        seventhLetters();
        ownWordsWhereNamesMustBe();
        namesToBeGiven();
        namesThatAreNoneOfWhatIsAsked();
        numbersThatCannotBe();
        oneTooMany();
        ninthBrackets();
        Check.close();
    }

    private static int told(String text) {
        return Check.works(new TyreWorks(), text);
    }

    /** A number in a text: its least and its greatest go, those beyond are fault 4 at their first byte. */
    private static void range(String ahead, int least, int most, String behind) {
        for (int good : new int[] {least, least + 1, most - 1, most}) {
            Check.told(ahead + good + behind);
        }
        if (least > 0) {
            Check.fault(4, ahead + "^" + (least - 1) + behind);
            Check.fault(4, ahead + "^0" + behind);
        }
        if (most < 9999) {
            Check.fault(4, ahead + "^" + (most + 1) + behind);
            Check.fault(4, ahead + "^9999" + behind);
        }
    }

    /** As many statements as may be, # being another letter in each; one more is fault 5 at its first byte. */
    private static void most(String ahead, String each, int most) {
        StringBuilder text = new StringBuilder(ahead);
        for (int i = 0; i < most; i++) {
            Check.told(text.append(each.replace('#', (char) ('a' + i))).toString());
        }
        String more = each.replace('#', (char) ('a' + most));
        Check.fault(5, text + "^" + more);
        Check.fault(5, text + "  ^" + more.substring(0, more.indexOf(' ')) + " !");
        Check.fault(5, text + "rests 1 2;\n^" + more);
    }

    // ---- words, numbers and signs

    private static void words() {
        Check.says("WORDS (1 to 6 letters a .. z)");
        TyreWorks x = Check.told("press a;press zzzzzz;press azazaz;");
        Check.due("one letter", x.letter(3, 0, 0), 'a');
        Check.due("no second one", x.letter(3, 0, 1), NONE);
        for (int k = 0; k < 6; k++) {
            Check.due("letter z " + k, x.letter(3, 1, k), 'z');
            Check.due("letter az " + k, x.letter(3, 2, k), k % 2 == 0 ? 'a' : 'z');
        }
        Check.due("no seventh one", x.letter(3, 1, 6), NONE);
        Check.fault(1, "press ^;");
        Check.fault(1, "press zzzzzz^z;");
        Check.fault(1, "press ^`;");
        Check.fault(1, "press ^{;");
        Check.fault(1, "press ^A;");
        Check.fault(1, "press ^Z;");
        Check.fault(1, "press a^`;");
        Check.fault(1, "press a^{;");
        Check.fault(1, "press ^" + (char) (128 + 'a') + ";");
    }

    private static void numbers() {
        Check.says("NUMBERS (1 to 4 digits)");
        Check.told("sheet 1 splice 9;");
        Check.told("sheet 0001 splice 0000;");
        TyreWorks x = Check.told("size s cures 0099;mould u of s lives 0010;mould v of s lives 09;");
        Check.due("four digits", x.mould(0, 3), 10);
        Check.due("two digits", x.mould(1, 3), 9);
        Check.fault(1, "sheet ^splice 1;");
        Check.fault(1, "sheet 0000^1 splice 1;");
        Check.fault(1, "sheet ^: splice 1;");
        Check.fault(1, "sheet ^/ splice 1;");
        Check.fault(1, "sheet 1^: splice 1;");
        Check.fault(1, "sheet 1^/ splice 1;");
        Check.fault(1, "sheet ^" + (char) (128 + '1') + " splice 1;");
    }

    private static void blanks() {
        Check.says("blanks (10, 32) between where one likes");
        Check.due("nothing but blanks", told(" \n \n\n  "), 0);
        Check.due("everywhere", told("\n mix\nm \n ripe  0\n\nstale 9 ;\n bad when\n[ not ( old + 1 ) < min ( 2 , 3 ) ] ;\n"), 2);
        Check.due("where need be alone", told("mix m ripe 0 stale 9;bad when[not(old+1)<min(2,3)];"), 2);
        for (int other : new int[] {0, 1, 8, 9, 11, 12, 13, 31, 33, 127, 138, 160, 255}) {
            Check.fault(1, "press a;^" + (char) other + "press b;");
            Check.fault(1, "press^" + (char) other + "a;");
            Check.fault(1, "^" + (char) other);
        }
        Check.fault(1, "^pre ss a;");
        Check.fault(1, "sheet 1 ^0 splice 1;");
    }

    private static void sideBySide() {
        Check.says("WORDS and NUMBERS side by side need one");
        Check.fault(1, "sheet^1 splice 1;");
        Check.fault(1, "sheet 1^splice 1;");
        Check.fault(1, "sheet 1 splice^1;");
        Check.fault(1, "rests 1 2^x;");
        Check.fault(1, "press a^1;");
        Check.fault(1, "press abcdef^1;");
        Check.fault(1, START + "order s 1 by 1234^x;");
        Check.fault(1, "bad when 1^or=1;");
        Check.fault(1, "bad when old^1=1;");
        Check.fault(1, "bad when 1=1^and all;");
        Check.told("bad when 1=1 and all;bad when not[all]or(1)=min(1,old)and all;");
        Check.told("sheet 1\nsplice\n1;");
    }

    private static void statements() {
        Check.says("{ STATEMENT ; }");
        Check.due("none", told(""), 0);
        Check.due("one", told("press a;"), 1);
        StringBuilder text = new StringBuilder();
        for (int n = 1; text.length() + 10 <= 1600; n++) {
            text.append("rests 1 2;");
            Check.due(n + " statements", told(text.toString()), n);
        }
        Check.fault(1, "^;");
        Check.fault(1, "press a^");
        Check.fault(1, "press a;^;");
        Check.fault(1, "press a ^press b;");
    }

    // ---- statements

    private static void hoursOfMixes() {
        Check.says("mix NAME ripe N stale N (0 .. 999 hours both");
        range("mix m ripe ", 0, 999, " stale 999;");
        range("mix m ripe 0 stale ", 0, 999, ";");
        Check.fault(4, "mix m ripe ^1000 stale 1000;");
        TyreWorks x = Check.told("mix m ripe 999 stale 999;mix n ripe 0 stale 0;");
        x.mix(0, 1);
        x.mix(1, 1);
        Check.due("ripe in", x.batch(0, 4), 999);
        Check.due("FIT for an hour", x.batch(0, 5), 1);
        Check.due("FIT at once", x.batch(1, 3), 1);
        Check.due("for an hour", x.batch(1, 5), 1);
    }

    private static void staleNotBelowRipe() {
        Check.says("(0 .. 999 hours both, the second not below the first; 6 MIXES)");
        for (int ripe : new int[] {0, 1, 2, 500, 998, 999}) {
            Check.told("mix m ripe " + ripe + " stale " + ripe + ";");
            if (ripe > 0) {
                Check.fault(4, "mix m ripe " + ripe + " stale ^" + (ripe - 1) + ";");
                Check.fault(4, "mix m ripe " + ripe + " stale ^0;");
            }
        }
    }

    private static void sixMixes() {
        Check.says("the second not below the first; 6 MIXES)");
        most("", "mix m# ripe 0 stale 1;", 6);
    }

    private static void poundsAndWidthsOfParts() {
        Check.says("(a MIX, 1 .. 99 pounds, 1 .. 99; 8 PARTS)");
        range("mix m ripe 0 stale 1;part p of m takes ", 1, 99, " wide 1;");
        range("mix m ripe 0 stale 1;part p of m takes 1 wide ", 1, 99, ";");
        TyreWorks x = Check.told("mix m ripe 0 stale 1;part p of m takes 99 wide 99;part q of m takes 1 wide 1;");
        x.mix(0, 999);
        x.cut(0, 0, 1);
        x.cut(0, 1, 1);
        Check.due("99 pounds and 1", x.pounds(1), 100);
        Check.bytes(x, 0, 1);
        Check.due("a sheet of 100", x.sheets(), 1);
        Check.due("99 and 1 wide", x.waste(), 0);
    }

    private static void eightParts() {
        Check.says("1 .. 99; 8 PARTS)");
        most("mix m ripe 0 stale 1;", "part p# of m takes 1 wide 1;", 8);
    }

    private static void hoursOfSizes() {
        Check.says("size NAME cures N (1 .. 99 hours; 6 SIZES)");
        range("size s cures ", 1, 99, ";");
    }

    private static void sixSizes() {
        Check.says("hours; 6 SIZES)");
        most("", "size s# cures 1;", 6);
    }

    private static void numbersOfNeeds() {
        Check.says("needs NAME N NAME (a SIZE, 1 .. 9, ");
        range(START + "needs s ", 1, 9, " p;");
        TyreWorks x = Check.told(START + "needs s 9 q;needs t 1 p;");
        Check.due("nine", x.needs(0, 1), 9);
        Check.due("one", x.needs(1, 0), 1);
        Check.due("none", x.needs(0, 0), 0);
    }

    private static void eachPartNeededOnce() {
        Check.says("a PART that it does not need yet");
        Check.told(START + "needs s 1 p;needs s 1 q;needs t 1 p;needs t 1 q;");
        Check.fault(3, START + "needs s 1 p;needs s 1 ^p;");
        Check.fault(3, START + "needs s 1 p;needs s 1 q;needs t 2 q;needs s 2 ^p;");
        Check.fault(3, START + "needs s 1 p;needs t 1 q;needs t 2 ^q;");
    }

    private static void twentyFourNeeds() {
        Check.says("24 NEEDS)");
        StringBuilder text = new StringBuilder("mix m ripe 0 stale 1;");
        for (char c = 'a'; c < 'i'; c++) {
            text.append("part p").append(c).append(" of m takes 1 wide 1;");
        }
        for (char c = 'a'; c < 'e'; c++) {
            text.append("size s").append(c).append(" cures 1;");
        }
        for (char c = 'a'; c < 'i'; c++) {
            text.append("needs sa 1 p").append(c).append(";needs sb 9 p").append(c).append(";");
        }
        most(text.toString(), "needs sc 1 p#;", 8);
        for (char c = 'a'; c < 'i'; c++) {
            text.append("needs sd 1 p").append(c).append(";");
        }
        TyreWorks x = Check.told(text.toString());
        Check.due("the 17th", x.needs(3, 0), 1);
        Check.due("the 24th", x.needs(3, 7), 1);
        Check.fault(5, text + "^needs sc 1 pa;");
    }

    private static void unlikeSizesToChange() {
        Check.says("change NAME NAME N (two unlike SIZES, ");
        Check.told(START + "change s t 1;change t s 1;");
        Check.fault(3, START + "change s ^s 1;");
        Check.fault(3, START + "change t ^t 1;");
    }

    private static void hoursOfChanges() {
        Check.says("0 .. 99 hours from the first one to the second one");
        range(START + "change s t ", 0, 99, ";");
        TyreWorks x = Check.told(START + "change s t 0;change t s 99;");
        Check.due("from s to t", x.change(0, 1), 0);
        Check.due("from t to s", x.change(1, 0), 99);
    }

    private static void theLastChangeCounts() {
        Check.says("the last one of two counts; 1 without");
        TyreWorks x = Check.told(START + "change s t 7;change t s 4;change s t 5;change s t 6;");
        Check.due("the last of three", x.change(0, 1), 6);
        Check.due("the one of the other way", x.change(1, 0), 4);
    }

    private static void oneWithoutAChange() {
        Check.says("counts; 1 without; 30 CHANGES)");
        TyreWorks x = Check.told(START + "size u cures 1;change s t 7;");
        Check.due("told", x.change(0, 1), 7);
        for (int[] pair : new int[][] {{0, 2}, {1, 0}, {1, 2}, {2, 0}, {2, 1}}) {
            Check.due("not told", x.change(pair[0], pair[1]), 1);
        }
        for (int size = 0; size < 3; size++) {
            Check.due("it is that", x.change(size, size), 0);
        }
    }

    private static void thirtyChanges() {
        Check.says("30 CHANGES)");
        most(START, "change s t 3;", 30);
        StringBuilder all = new StringBuilder();
        for (char c = 'a'; c < 'g'; c++) {
            all.append("size s").append(c).append(" cures 1;");
        }
        for (int n = 0; n < 30; n++) {
            int from = n / 5;
            int to = (from + 1 + n % 5) % 6;
            all.append("change s").append((char) ('a' + from)).append(" s").append((char) ('a' + to)).append(" ");
            all.append(n).append(";");
        }
        TyreWorks x = Check.told(all.toString());
        for (int n = 0; n < 30; n++) {
            Check.due("change " + n, x.change(n / 5, (n / 5 + 1 + n % 5) % 6), n);
        }
        Check.fault(5, all + "^change sa sb 1;");
    }

    private static void fourPresses() {
        Check.says("press NAME (4 PRESSES)");
        most("", "press r#;", 4);
    }

    private static void livesOfMoulds() {
        Check.says("mould NAME of NAME lives N (a SIZE, 1 .. 99; ");
        range(START + "mould u of s lives ", 1, 99, ";");
        TyreWorks x = Check.told(START + "mould u of s lives 99;mould v of t lives 1;");
        Check.due("99", x.mould(0, 3), 99);
        Check.due("1", x.mould(1, 3), 1);
    }

    private static void eightMoulds() {
        Check.says("1 .. 99; 8 MOULDS)");
        most(START, "mould u# of s lives 1;", 8);
    }

    private static void numbersOfOrders() {
        Check.says("order NAME N by N (a SIZE, 1 .. 60, an hour 0 .. 9999; ");
        range(START + "order s ", 1, 60, " by 0;");
        range(START + "order s 1 by ", 0, 9999, ";");
        Check.fault(1, START + "order s 1 by 9999^0;");
    }

    private static void eightOrders() {
        Check.says("8 ORDERS)");
        most(START, "order s 1 by 1;", 8);
    }

    private static void widthsOfSheets() {
        Check.says("sheet N splice N (1 .. 400, 0 .. 9; ");
        range("sheet ", 1, 400, " splice 0;");
        range("sheet 1 splice ", 0, 9, ";");
    }

    /** Two parts as wide as told. */
    private static void sheets(int wide, String more, int sheets, int waste) {
        TyreWorks x = Check.told("mix m ripe 0 stale 1;part p of m takes 1 wide " + wide + ";" + more);
        Check.bytes(x, 0, 0);
        Check.due("sheets", x.sheets(), sheets);
        Check.due("waste", x.waste(), waste);
    }

    private static void theLastSheetCounts() {
        Check.says("0 .. 9; the last one counts; 100 and 0 without)");
        sheets(20, "sheet 30 splice 9;sheet 45 splice 5;", 1, 5);
        sheets(20, "sheet 45 splice 5;sheet 44 splice 5;", 2, 48);
        sheets(20, "sheet 45 splice 5;sheet 45 splice 6;", 2, 50);
        Check.told("sheet 1 splice 1;".repeat(90));
    }

    private static void sheetsWithoutOneTold() {
        Check.says("the last one counts; 100 and 0 without)");
        sheets(50, "", 1, 0);
        sheets(49, "", 1, 2);
        sheets(51, "", 2, 98);
        sheets(99, "", 2, 2);
    }

    private static void hoursOfRests() {
        Check.says("rests N N (0 .. 999 hours, the second not below the first; ");
        range("rests ", 0, 999, " 999;");
        range("rests 0 ", 0, 999, ";");
        Check.fault(4, "rests ^1000 1000;");
        for (int least : new int[] {1, 2, 500, 999}) {
            Check.told("rests " + least + " " + least + ";");
            Check.fault(4, "rests " + least + " ^" + (least - 1) + ";");
        }
    }

    /** A green tyre after these hours of rest. */
    private static boolean cures(String rests, int hours) {
        TyreWorks x = Check.told("mix m ripe 0 stale 9;part p of m takes 1 wide 1;size s cures 1;needs s 1 p;press r;"
                + "mould u of s lives 9;" + rests);
        x.mix(0, 9);
        x.cut(0, 0, 1);
        x.mount(0, 0);
        x.build(0);
        for (int left = hours; left > 0; left -= 999) {
            x.hours(Math.min(left, 999));
        }
        return x.cure(0) == 0;
    }

    private static void theLastRestsCount() {
        Check.says("the second not below the first; the last one counts; 0 and 999 without)");
        Check.due("of the last one", cures("rests 5 6;rests 2 3;", 2), true);
        Check.due("of the last one", cures("rests 5 6;rests 2 3;", 3), true);
        Check.due("of the last one", cures("rests 5 6;rests 2 3;", 1), false);
        Check.due("of the last one", cures("rests 5 6;rests 2 3;", 4), false);
        Check.due("of the first one", cures("rests 5 6;rests 2 3;", 5), false);
    }

    private static void restsWithoutOnesTold() {
        Check.says("the last one counts; 0 and 999 without)");
        Check.due("0", cures("", 0), true);
        Check.due("999", cures("", 999), true);
        Check.due("1000", cures("", 1000), false);
    }

    private static void eightLaws() {
        Check.says("bad when TEST (8 LAWS)");
        most("", "bad when all;", 8);
    }

    // ---- names

    private static void ownWordsAreNoNames() {
        Check.says("OWN WORDS, which no NAME is: " + OWN_WORDS + ".");
        String[] own = OWN_WORDS.split(", ");
        Check.due("own words", own.length, 32);
        for (String word : own) {
            Check.fault(1, "mix ^" + word + " ripe 0 stale 1;");
            Check.fault(1, START + "part ^" + word + " of m takes 1 wide 1;");
            Check.fault(1, "size ^" + word + " cures 1;");
            Check.fault(1, "press ^" + word + ";");
            Check.fault(1, START + "mould ^" + word + " of s lives 1;");
            String shorter = word.substring(0, word.length() - 1) + (word.length() < 3 ? "z" : "");
            Check.told("press " + shorter + ";");
            Check.told("press x" + word.substring(1) + ";");
            if (word.length() < 6) {
                Check.told("press " + word + "z;press z" + word + ";");
            }
        }
        for (String word : "rip sheets mixes sizes parts hour name batch lot tyre cured green".split(" ")) {
            Check.told("press " + word + ";");
        }
    }

    private static void namesAreUnlike() {
        Check.says("NAMES are unlike ones");
        String[] kinds = {"mix # ripe 0 stale 1;", "part # of m takes 1 wide 1;", "size # cures 1;", "press #;",
            "mould # of s lives 1;"};
        for (String first : kinds) {
            for (String second : kinds) {
                int at = second.indexOf('#');
                String marked = second.substring(0, at) + "^same" + second.substring(at + 1);
                Check.fault(2, START + first.replace("#", "same") + marked);
                Check.told(START + first.replace("#", "same") + second.replace("#", "sama"));
                Check.told(START + first.replace("#", "same") + second.replace("#", "samee"));
                Check.told(START + first.replace("#", "same") + second.replace("#", "sam"));
            }
        }
    }

    private static void namesAreToldAhead() {
        Check.says("each told ahead of where it is asked");
        Check.fault(3, "part p of ^m takes 1 wide 1;mix m ripe 0 stale 1;");
        Check.fault(3, "mould u of ^s lives 1;size s cures 1;");
        Check.fault(3, "order ^s 1 by 1;size s cures 1;");
        Check.fault(3, "size s cures 1;change s ^t 1;size t cures 1;");
        Check.fault(3, "size s cures 1;change ^t s 1;size t cures 1;");
        Check.fault(3, "size s cures 1;needs s 1 ^p;mix m ripe 0 stale 1;part p of m takes 1 wide 1;");
        Check.fault(3, "mix m ripe 0 stale 1;part p of ^p takes 1 wide 1;");
        Check.fault(3, "mould u of ^u lives 1;");
    }

    // ---- faults

    private static void firstFaultAlongTheText() {
        Check.says("FAULTS, the first along the text");
        Check.fault(2, "press a;press ^a;sheet 0 splice 0;order s 1 by 1;!");
        Check.fault(3, "order ^s 0 by 1;press a;press a;");
        Check.fault(4, "sheet ^0 splice 10;press a;press a;");
        Check.fault(1, "press a ^a;press a;press a;");
        Check.fault(5, "press a;press b;press c;press d;^press d;");
        Check.fault(5, "bad when ((((((((^(!");
        Check.fault(3, START + "change s ^s 100;");
        Check.fault(4, START + "needs s ^0 s;");
        Check.fault(2, START + "part ^s of s takes 0 wide 0;");
        Check.fault(4, "mix m ripe ^1000 stale 0;");
        Check.fault(2, "press a;press ^a!");
        Check.fault(2, "press a;press ^a1;");
        Check.fault(3, "order ^s");
        Check.fault(4, "sheet ^500x");
        Check.fault(4, "sheet ^0");
    }

    private static void wordsAndNumbersWhole() {
        Check.says("1 the first byte with which no WORKS go on (WORDS, NUMBERS whole, at their first byte");
        Check.fault(1, "^mi m ripe 0 stale 1;");
        Check.fault(1, "^mixx m ripe 0 stale 1;");
        Check.fault(1, "^prest a;");
        Check.fault(1, "mix m ^rip 0 stale 1;");
        Check.fault(1, "mix m ^riper 0 stale 1;");
        Check.fault(1, "mix m ^12 0 stale 1;");
        Check.fault(1, "mix m ripe ^abc stale 1;");
        Check.fault(1, "rests 1 ^abc;");
        Check.fault(1, "rests 1 2 ^345;");
        Check.fault(1, "rests 1 2 ^abc;");
        Check.fault(1, "bad when ^olds=1;");
        Check.fault(1, "bad when 1=1 ^andy all;");
        Check.fault(1, "^1234;");
        Check.fault(1, "^sizes s cures 1;");
    }

    private static void textsThatEndTooSoon() {
        Check.says("at the text's length, if it ends too soon");
        String whole = "press a;rests 1 2;";
        for (int n = 0; n <= whole.length(); n++) {
            boolean good = n == 0 || n == 8 || n == whole.length();
            Check.due("the first " + n + " bytes", told(whole.substring(0, n)) != NONE, good);
        }
        Check.fault(1, "^mi");
        Check.fault(1, "mix^");
        Check.fault(1, "mix  \n ^");
        Check.fault(1, "mix m ^ri");
        Check.fault(1, "press a^");
        Check.fault(1, "press a \n^");
        Check.fault(1, "sheet 4^");
        Check.fault(1, "bad when [[all]^");
        Check.fault(1, "bad when min(1,^");
        Check.fault(1, "rests 1 2^");
        Check.fault(1, "rests 1 2;".repeat(159) + "press abcd^");
        Check.fault(1, "rests 1 2;".repeat(159) + "press abc ^");
        Check.fault(1, "rests 1 2;".repeat(159) + "rests 1 20^");
        Check.fault(1, "rests 1 2;".repeat(159) + "rests  1 2^");
        Check.fault(1, "rests 1 2;".repeat(159) + "press    ^!");
        for (int n = 1; n < 20; n++) {
            TyreWorks x = new TyreWorks();
            Check.text(x, "press abcdef;rests 1;".substring(0, 20));
            x.end(n);
            Check.due("of the first " + n + " bytes alone", x.works(), n == 13 ? 1 : NONE);
            Check.due("fault", x.fault(0), n == 13 ? 0 : 1);
            Check.due("place", x.fault(1), n < 5 ? 0 : n == 13 ? NONE : n < 18 && n > 13 ? 13 : n);
        }
    }

    private static void seventhLetters() {
        Check.says("a 7th letter, a 5th digit at itself, whatever may stand there");
        Check.fault(1, "abcdef^g");
        Check.fault(1, "abcdef^ghijklmnop;");
        Check.fault(1, "press abcdef^g;");
        Check.fault(1, "press a abcdef^g;");
        Check.fault(1, "pressa^b;");
        Check.fault(1, "change^s a b 1;");
        Check.fault(1, "sheet abcdef^g splice 1;");
        Check.fault(1, "bad when abcdef^g;");
        Check.fault(1, "bad when 1 abcdef^g;");
        Check.fault(1, "1234^5");
        Check.fault(1, "1234^567890;");
        Check.fault(1, "press 1234^5;");
        Check.fault(1, "press a 1234^5;");
        Check.fault(1, "sheet 0000^0 splice 1;");
        Check.fault(1, "sheet 9999^9 splice 1;");
        Check.fault(1, "bad when 1 1234^5;");
        Check.fault(1, "bad when 1=1234^5;");
    }

    private static void ownWordsWhereNamesMustBe() {
        Check.says("an OWN WORD where a NAME must be)");
        for (String word : OWN_WORDS.split(", ")) {
            Check.fault(1, START + "part x of ^" + word + " takes 1 wide 1;");
            Check.fault(1, START + "needs ^" + word + " 1 p;");
            Check.fault(1, START + "needs s 1 ^" + word + ";");
            Check.fault(1, START + "change ^" + word + " s 1;");
            Check.fault(1, START + "change s ^" + word + " 1;");
            Check.fault(1, START + "mould x of ^" + word + " lives 1;");
            Check.fault(1, START + "order ^" + word + " 1 by 1;");
        }
    }

    private static void namesToBeGiven() {
        Check.says("2 a NAME to be given that is there already, at its first byte");
        Check.fault(2, START + "press   ^m;");
        Check.fault(2, START + "press\n^p;");
        Check.fault(2, START + "press ^s ;");
        Check.fault(2, START + "size x cures 1;press ^x;");
        Check.fault(2, START + "press x;press ^x;");
        Check.fault(2, START + "mould x of s lives 1;press ^x;");
        Check.fault(2, "press abcdef;press abcdeg;press abcde;press ^abcdef;");
    }

    private static void namesThatAreNoneOfWhatIsAsked() {
        Check.says("3 a NAME that is none of what is asked, of needs a PART that it needs already, "
                + "of change the second SIZE that is the first one, at its first byte");
        String all = START + "press r;mould u of s lives 1;";
        for (String name : "p q s t r u zz".split(" ")) {
            Check.fault(3, all + "part x of ^" + name + " takes 1 wide 1;");
        }
        for (String name : "m p q r u zz".split(" ")) {
            Check.fault(3, all + "needs ^" + name + " 1 p;");
            Check.fault(3, all + "change ^" + name + " s 1;");
            Check.fault(3, all + "change s ^" + name + " 1;");
            Check.fault(3, all + "mould x of ^" + name + " lives 1;");
            Check.fault(3, all + "order ^" + name + " 1 by 1;");
        }
        for (String name : "m s t r u zz".split(" ")) {
            Check.fault(3, all + "needs s 1 ^" + name + ";");
        }
        Check.fault(3, all + "needs s 1 p;needs s 1 ^p!");
        Check.fault(3, all + "change s ^s!");
    }

    private static void numbersThatCannotBe() {
        Check.says("4 a NUMBER that can't be, at its first byte");
        Check.fault(4, "sheet  ^0401 splice 1;");
        Check.fault(4, "sheet\n^0 splice 1;");
        Check.fault(4, "sheet ^9999!");
        Check.told("bad when 0=9999 and 0000<1;");
    }

    private static void oneTooMany() {
        Check.says("5 one too many of a kind of STATEMENT, at its first byte");
        Check.fault(5, "press a;press b;press c;press d; \n^press");
        Check.fault(5, "press a;press b;press c;press d;^press a;");
        Check.fault(5, "press a;press b;press c;press d;^press press;");
        Check.fault(1, "press a;press b;press c;press d;^presse a;");
        Check.fault(1, "press a;press b;press c;press d;pressa^b;");
        Check.told("sheet 1 splice 1;".repeat(50) + "rests 1 1;".repeat(50));
    }

    private static void ninthBrackets() {
        Check.says("a 9th ( [ that is open at once, at itself");
        for (int square = 0; square <= 8; square++) {
            String open = "[".repeat(square) + "(".repeat(8 - square);
            String close = ")".repeat(8 - square) + (square < 8 ? "=1" : "") + "]".repeat(square);
            String inner = square < 8 ? "1" : "all";
            Check.told("bad when " + open + inner + close + ";");
            Check.fault(5, "bad when " + open + "^(1");
            Check.fault(5, "bad when " + open + "min ^(1,1");
            Check.fault(square < 8 ? 1 : 5, "bad when " + open + "^[all");
        }
        Check.told("bad when " + "[all]and".repeat(100) + " all;");
        Check.told("bad when " + "(1)+".repeat(100) + "min(1,(1))=max((1),1);");
        Check.told("bad when ((((((((1))))))))=((((((((1))))))));bad when [[[[[[[[all]]]]]]]];");
        Check.fault(5, "bad when ((((((((1))))))))=((((((((^(");
        Check.fault(5, "bad when [[[[[[[[all]and[all]and[^[all");
    }
}
