/** Promise 44: refusals, each kind by itself. */
public final class StatusTest {
    private static final int NONE = TyreWorks.NONE;

    public static void main(String[] args) {
        TyreWorks x = new TyreWorks();
        status(x, 0, 0, 0, 0, 0, 0);
        x.end(1);
        status(x, 1, 0, 0, 0, 0, 0);
        for (int n = 0; n < 81; n++) {
            x.feed(0, 0, 0, 0, 0);
        }
        status(x, 2, 0, 0, 0, 0, 0);
        x.works();
        status(x, 2, 1, 0, 0, 0, 0);
        x.mix(0, 1);
        x.cut(0, 0, 1);
        x.build(0);
        status(x, 2, 1, 3, 0, 0, 0);
        x.mount(0, 0);
        x.cure(0);
        x.clean(0);
        x.scrap(0);
        status(x, 2, 1, 3, 4, 0, 0);
        x.hours(0);
        x.goOn(0);
        status(x, 2, 1, 3, 4, 2, 0);
        x.sheets();
        x.wave(0);
        x.wave(NONE);
        status(x, 2, 1, 3, 4, 2, 3);
        asks(x);
        status(x, 2, 1, 3, 4, 2, 3);
        x.works();
        status(x, 2, 1, 3, 4, 2, 3);
        Check.due("status 6", x.status(6), NONE);
        Check.due("status -1", x.status(-1), NONE);
        Check.close();
    }

    private static void status(TyreWorks x, int... due) {
        for (int what = 0; what < due.length; what++) {
            Check.due("status " + what, x.status(what), due[what]);
        }
    }

    /** Questions about what is not there are no refusals. */
    private static void asks(TyreWorks x) {
        x.fault(9);
        x.has(99);
        x.letter(9, 9, 9);
        x.needs(9, 9);
        x.change(9, 9);
        x.batch(9, 9);
        x.lot(9, 9);
        x.tyre(9, 9);
        x.press(9, 9);
        x.mould(9, 9);
        x.stock(9);
        x.count(9, 9);
        x.could(9);
        x.trace(9, 9);
        x.others(9);
        x.bad(9);
        x.law(9);
        x.route(9);
        x.starves(9);
        x.kept(9);
        x.when(9);
        x.spread(9, 9);
        x.turn(9);
        x.pounds(9);
        x.octet(9);
        x.status(9);
    }
}
