/** Promise 41: all pounds where they are. */
public final class PoundsTest {
    private static final int NONE = TyreWorks.NONE;
    private static final String TEXT = "mix m ripe 0 stale 5;mix n ripe 0 stale 50;part p of m takes 3 wide 9;"
            + "part q of n takes 7 wide 9;size a cures 4;size b cures 2;needs a 2 p;needs a 1 q;needs b 2 q;"
            + "press x;mould ma of a lives 9;";

    public static void main(String[] args) {
        TyreWorks x = Check.told(TEXT);
        pounds(x, 0, 0, 0, 0, 0, 0);
        x.mix(0, 100);
        x.mix(1, 200);
        pounds(x, 300, 0, 0, 0, 0, 0);
        x.cut(0, 0, 10);
        x.cut(1, 1, 20);
        pounds(x, 130, 170, 0, 0, 0, 0);
        x.build(0);
        x.build(0);
        x.build(1);
        pounds(x, 130, 130, 40, 0, 0, 0);
        x.mount(0, 0);
        x.cure(0);
        pounds(x, 130, 130, 27, 13, 0, 0);
        x.hours(4);
        pounds(x, 130, 130, 27, 0, 13, 0);
        x.scrap(2);
        pounds(x, 130, 130, 13, 0, 13, 14);
        x.scrap(0);
        pounds(x, 130, 130, 13, 0, 0, 27);
        x.hours(60);
        pounds(x, 130, 130, 13, 0, 0, 27);
        Check.due("what 7", x.pounds(7), NONE);
        Check.due("what -1", x.pounds(-1), NONE);
        x.works();
        pounds(x, 0, 0, 0, 0, 0, 0);
        Check.close();
    }

    private static void pounds(TyreWorks x, int... due) {
        int all = 0;
        for (int what = 0; what < due.length; what++) {
            all += due[what];
            Check.due("pounds " + what, x.pounds(what), due[what]);
        }
        Check.due("all together", x.pounds(6), all);
    }
}
