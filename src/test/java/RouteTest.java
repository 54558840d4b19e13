import java.util.Random;

/** Promise 33: sizes in the order of least change. */
public final class RouteTest {
    private static final int NONE = TyreWorks.NONE;

    public static void main(String[] args) {
        told();
        fromWhatWasBuilt();
        onlySizesThatAreAsked();
        likeEveryOrderTried();
        Check.close();
    }

    private static void route(TyreWorks x, int hours, int... sizes) {
        Check.due("route hours", x.route(NONE), hours);
        for (int k = 0; k < sizes.length; k++) {
            Check.due("route " + k, x.route(k), sizes[k]);
        }
        Check.due("route behind", x.route(sizes.length), NONE);
        Check.due("route far behind", x.route(Integer.MAX_VALUE), NONE);
        Check.due("route -2", x.route(-2), NONE);
    }

    private static void told() {
        route(new TyreWorks(), 0);
        route(Check.told("size a cures 1;size b cures 1;"), 0);
        route(Check.told("size a cures 1;size b cures 1;order b 1 by 1;"), 0, 1);
        route(Check.told("size a cures 1;size b cures 1;order b 1 by 1;order a 1 by 1;order b 2 by 1;"), 1, 0, 1);
        String three = "size a cures 1;size b cures 1;size c cures 1;order c 1 by 1;order b 1 by 1;order a 1 by 1;";
        route(Check.told(three), 2, 0, 1, 2);
        route(Check.told(three + "change a b 5;"), 2, 0, 2, 1);
        route(Check.told(three + "change a b 5;change a c 5;"), 2, 1, 2, 0);
        route(Check.told(three + "change c b 0;change b a 0;"), 0, 2, 1, 0);
    }

    private static void fromWhatWasBuilt() {
        TyreWorks x = Check.told("mix m ripe 0 stale 9;part p of m takes 1 wide 1;size a cures 1;size b cures 1;"
                + "size c cures 1;needs a 1 p;needs c 1 p;order a 1 by 1;order b 1 by 1;change c a 9;change a b 3;");
        x.mix(0, 9);
        x.cut(0, 0, 9);
        route(x, 1, 1, 0);
        x.build(2);
        route(x, 2, 1, 0);
        x.build(0);
        route(x, 3, 0, 1);
    }

    private static void onlySizesThatAreAsked() {
        TyreWorks x = Check.told("size a cures 1;size b cures 1;size c cures 1;size d cures 1;size e cures 1;"
                + "size f cures 1;order f 1 by 1;order b 1 by 1;order d 1 by 1;change b d 9;change b f 9;");
        route(x, 2, 3, 5, 1);
    }

    private static void likeEveryOrderTried() {
        Random random = new Random(5);
        for (int n = 0; n < 60; n++) {
            StringBuilder text = new StringBuilder("mix m ripe 0 stale 9;part p of m takes 1 wide 1;");
            for (int i = 0; i < 6; i++) {
                text.append("size s").append((char) ('a' + i)).append(" cures 1;needs s").append((char) ('a' + i));
                text.append(" 1 p;");
            }
            int asked = 0;
            for (int o = 0; o < 1 + n % 8; o++) {
                int size = random.nextInt(6);
                asked |= 1 << size;
                text.append("order s").append((char) ('a' + size)).append(" 1 by 1;");
            }
            for (int c = 0; c < 30; c++) {
                int from = c / 5;
                int to = (from + 1 + c % 5) % 6;
                text.append("change s").append((char) ('a' + from)).append(" s").append((char) ('a' + to));
                text.append(" ").append(random.nextInt(n % 2 == 0 ? 3 : 100)).append(";");
            }
            TyreWorks x = Check.told(text.toString());
            int from = n % 7 - 1;
            if (from >= 0) {
                x.mix(0, 9);
                x.cut(0, 0, 1);
                x.build(from);
            }
            int[] best = new int[6];
            int hours = best(x, from, asked, new int[6], 0, 0, best, Integer.MAX_VALUE);
            int[] due = new int[Integer.bitCount(asked)];
            System.arraycopy(best, 0, due, 0, due.length);
            route(x, hours, due);
        }
    }

    private static int best(TyreWorks x, int last, int left, int[] tried, int n, int hours, int[] best, int least) {
        if (left == 0) {
            if (hours < least) {
                System.arraycopy(tried, 0, best, 0, n);
            }
            return Math.min(hours, least);
        }
        int found = least;
        for (int size = 0; size < 6; size++) {
            if ((left & (1 << size)) != 0) {
                tried[n] = size;
                int more = last == NONE ? 0 : x.change(last, size);
                found = best(x, size, left & ~(1 << size), tried, n + 1, hours + more, best, found);
            }
        }
        return found;
    }
}
