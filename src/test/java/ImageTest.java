/** Promises 42 and 43: images and their bytes. */
public final class ImageTest {
    private static final int NONE = TyreWorks.NONE;
    private static final String TEXT = "mix m ripe 0 stale 999;part p of m takes 1 wide 9;size a cures 4;size b cures 2;"
            + "needs a 1 p;needs b 2 p;press x;mould mb of b lives 9;";

    public static void main(String[] args) {
        ofNothing();
        ofTyres();
        hasEveryBatch();
        staysAsWritten();
        Check.close();
    }

    private static void octets(TyreWorks x, int... ahead) {
        int check = 47;
        for (int k = 0; k < ahead.length; k++) {
            Check.due("octet " + k, x.octet(k), ahead[k]);
            check = (3 * check + ahead[k]) % 241;
        }
        Check.due("the last octet", x.octet(ahead.length), check);
        Check.due("octet behind", x.octet(ahead.length + 1), NONE);
        Check.due("octet ahead", x.octet(-1), NONE);
    }

    private static void ofNothing() {
        TyreWorks x = new TyreWorks();
        Check.due("ahead of any", x.octet(0), NONE);
        Check.due("image", x.image(), 4);
        octets(x, 0, 0, 0);
        Check.due("47 * 27 mod 241", x.octet(3), 64);
    }

    private static void ofTyres() {
        TyreWorks x = Check.told(TEXT);
        for (int b = 0; b < 24; b++) {
            x.mix(0, 9);
        }
        x.cut(0, 0, 1);
        x.cut(10, 0, 1);
        x.cut(23, 0, 3);
        x.cut(17, 0, 2);
        x.hours(300);
        x.build(1);
        x.build(0);
        x.build(1);
        x.build(0);
        x.mount(0, 0);
        x.cure(0);
        Check.due("hour", x.has(7), 307);
        Check.due("image", x.image(), 24);
        octets(x, 1, 307 - 256, 4, 1, 1, 0, 4, 1, 0, 0, 128, 0, 0, 1, 0, 128, 0, 0, 0, 0, 2, 0, 0);
        x.hours(2);
        x.scrap(1);
        Check.due("image", x.image(), 24);
        octets(x, 1, 309 - 256, 4, 1, 2, 0, 4, 1, 0, 3, 128, 0, 0, 1, 0, 128, 0, 0, 0, 0, 2, 0, 0);
    }

    private static void hasEveryBatch() {
        for (int b = 0; b < 24; b++) {
            TyreWorks x = Check.told(TEXT);
            for (int n = 0; n <= b; n++) {
                x.mix(0, 9);
            }
            x.cut(b, 0, 1);
            x.build(0);
            x.image();
            int bits = 1 << b;
            octets(x, 0, 1, 1, 0, 0, bits >> 16, (bits >> 8) & 255, bits & 255);
        }
    }

    private static void staysAsWritten() {
        TyreWorks x = Check.told(TEXT);
        x.mix(0, 9);
        x.cut(0, 0, 9);
        x.build(0);
        Check.due("image", x.image(), 9);
        x.build(1);
        x.hours(9);
        octets(x, 0, 1, 1, 0, 0, 0, 0, 1);
        x.works();
        octets(x, 0, 1, 1, 0, 0, 0, 0, 1);
        Check.due("a shorter one", x.image(), 4);
        octets(x, 0, 0, 0);
    }
}
