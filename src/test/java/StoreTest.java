/** Promises 10, 11, 15, 16, 24: batches, lots, what lies in stock. */
public final class StoreTest {
    private static final int NONE = TyreWorks.NONE;
    private static final String TEXT = "mix m ripe 2 stale 5;mix n ripe 0 stale 0;part p of m takes 3 wide 9;"
            + "part q of n takes 1 wide 9;part r of m takes 99 wide 9;";

    public static void main(String[] args) {
        ages();
        refusesToMix();
        cuts();
        refusesToCut();
        holdsAsManyAsMayBe();
        stock();
        Check.close();
    }

    private static void batch(TyreWorks x, int batch, int... due) {
        for (int what = 0; what < due.length; what++) {
            Check.due("batch(" + batch + ", " + what + ") in " + x.has(7), x.batch(batch, what), due[what]);
        }
        Check.due("batch what 6", x.batch(batch, 6), NONE);
        Check.due("batch what -1", x.batch(batch, -1), NONE);
    }

    private static void ages() {
        TyreWorks x = Check.told(TEXT);
        Check.due("batch ahead of any", x.batch(0, 0), NONE);
        Check.due("mix m", x.mix(0, 999), 0);
        Check.due("mix n", x.mix(1, 1), 1);
        batch(x, 0, 0, 999, 0, 0, 2, 4);
        batch(x, 1, 1, 1, 0, 1, 0, 1);
        x.hours(1);
        batch(x, 0, 0, 999, 1, 0, 1, 4);
        batch(x, 1, 1, 1, 1, 0, NONE, 0);
        x.hours(1);
        batch(x, 0, 0, 999, 2, 1, 0, 4);
        x.hours(3);
        Check.due("another later", x.mix(0, 7), 2);
        batch(x, 0, 0, 999, 5, 1, 0, 1);
        batch(x, 2, 0, 7, 0, 0, 2, 4);
        x.hours(1);
        batch(x, 0, 0, 999, 6, 0, NONE, 0);
        Check.due("batch 3", x.batch(3, 0), NONE);
        Check.due("batch -1", x.batch(-1, 0), NONE);
    }

    private static void refusesToMix() {
        TyreWorks x = Check.told(TEXT);
        Check.due("mix 2", x.mix(2, 5), NONE);
        Check.due("mix -1", x.mix(-1, 5), NONE);
        Check.due("no pounds", x.mix(0, 0), NONE);
        Check.due("1000 pounds", x.mix(0, 1000), NONE);
        Check.due("batches", x.has(8), 0);
        Check.due("refusals", x.status(2), 4);
    }

    private static void cuts() {
        TyreWorks x = Check.told(TEXT);
        x.mix(0, 100);
        x.mix(1, 60);
        Check.due("all pounds", x.cut(1, 1, 60), 0);
        x.hours(2);
        Check.due("cut", x.cut(0, 0, 33), 1);
        Check.due("left", x.batch(0, 1), 1);
        Check.due("left", x.batch(1, 1), 0);
        int[][] due = {{1, 1, 60, 0}, {0, 0, 33, 1}};
        for (int lot = 0; lot < 2; lot++) {
            for (int what = 0; what < 4; what++) {
                Check.due("lot " + lot + " " + what, x.lot(lot, what), due[lot][what]);
            }
            Check.due("lot what 4", x.lot(lot, 4), NONE);
            Check.due("lot what -1", x.lot(lot, -1), NONE);
        }
        Check.due("lot 2", x.lot(2, 0), NONE);
        Check.due("lot -1", x.lot(-1, 0), NONE);
        Check.due("lots", x.has(9), 2);
        x.hours(4);
        Check.due("stale lot", x.lot(1, 3), 0);
    }

    private static void refusesToCut() {
        TyreWorks x = Check.told(TEXT);
        x.mix(0, 179);
        Check.due("unripe", x.cut(0, 0, 1), NONE);
        x.hours(2);
        Check.due("no such batch", x.cut(1, 0, 1), NONE);
        Check.due("no such batch", x.cut(-1, 0, 1), NONE);
        Check.due("no such part", x.cut(0, 3, 1), NONE);
        Check.due("no such part", x.cut(0, -1, 1), NONE);
        Check.due("of another mix", x.cut(0, 1, 1), NONE);
        Check.due("none", x.cut(0, 0, 0), NONE);
        Check.due("more than the pounds", x.cut(0, 0, 61), NONE);
        Check.due("a pound lacks", x.cut(0, 0, 60), NONE);
        Check.due("pounds stay", x.batch(0, 1), 179);
        Check.due("refusals", x.status(2), 9);
        Check.due("59", x.cut(0, 0, 59), 0);
        x.hours(3);
        Check.due("on its last fit hour", x.cut(0, 0, 1), NONE);
        x.mix(0, 3);
        x.hours(5);
        Check.due("on its last fit hour", x.cut(1, 0, 1), 1);
        x.mix(0, 3);
        x.hours(6);
        Check.due("stale", x.cut(2, 0, 1), NONE);
    }

    private static void holdsAsManyAsMayBe() {
        TyreWorks x = Check.told(TEXT);
        for (int n = 0; n < 24; n++) {
            Check.due("mix " + n, x.mix(1, 2), n);
        }
        Check.due("25th", x.mix(1, 2), NONE);
        Check.due("more than 60 parts", manyPounds().cut(0, 1, 61), NONE);
        Check.due("60 parts", manyPounds().cut(0, 1, 60), 0);
        for (int n = 0; n < 40; n++) {
            Check.due("cut " + n, x.cut(n / 2, 1, 1), n);
        }
        Check.due("41st", x.cut(23, 1, 1), NONE);
        Check.due("pounds stay", x.batch(23, 1), 2);
        Check.due("batches", x.has(8), 24);
        Check.due("lots", x.has(9), 40);
        Check.due("stock", x.stock(1), 40);
    }

    private static TyreWorks manyPounds() {
        TyreWorks x = Check.told(TEXT);
        x.mix(1, 999);
        return x;
    }

    private static void stock() {
        TyreWorks x = Check.told(TEXT);
        Check.due("nothing", x.stock(0), 0);
        Check.due("stock 3", x.stock(3), NONE);
        Check.due("stock -1", x.stock(-1), NONE);
        x.mix(0, 300);
        x.hours(2);
        x.mix(0, 300);
        x.cut(0, 0, 10);
        x.cut(0, 0, 5);
        x.cut(0, 2, 2);
        x.hours(2);
        x.cut(1, 0, 60);
        Check.due("both batches", x.stock(0), 75);
        Check.due("another part", x.stock(2), 2);
        x.hours(2);
        Check.due("one is stale", x.stock(0), 60);
        Check.due("stale", x.stock(2), 0);
    }
}
