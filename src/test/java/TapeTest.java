/** Promises 2 and 3: the tape. */
public final class TapeTest {
    public static void main(String[] args) {
        fillsUp();
        endsShort();
        keepsTheOrderOfBytes();
        Check.close();
    }

    private static void fillsUp() {
        TyreWorks x = new TyreWorks();
        for (int n = 1; n <= 80; n++) {
            Check.due("feed " + n, x.feed(0, 0, 0, 0, 0), 20 * n);
        }
        Check.due("81st feed", x.feed(0, 0, 0, 0, 0), TyreWorks.NONE);
        Check.due("end(1601)", x.end(1601), false);
        Check.due("end(1600)", x.end(1600), true);
        Check.due("end(1581)", x.end(1581), true);
        Check.due("feed that would reach 1601", x.feed(1, 1, 1, 1, 1), TyreWorks.NONE);
        Check.due("end(1580)", x.end(1580), true);
        Check.due("feed to 1600", x.feed(1, 1, 1, 1, 1), 1600);
        Check.due("refusals", x.status(0), 3);
    }

    private static void endsShort() {
        TyreWorks x = new TyreWorks();
        Check.due("end(0) of nothing", x.end(0), true);
        Check.due("end(1) of nothing", x.end(1), false);
        Check.due("end(-1)", x.end(-1), false);
        Check.due("feed", x.feed(1, 2, 3, 4, 5), 20);
        Check.due("end(21)", x.end(21), false);
        Check.due("end(7)", x.end(7), true);
        Check.due("end(8)", x.end(8), false);
        Check.due("feed behind 7", x.feed(1, 2, 3, 4, 5), 27);
        Check.due("refusals", x.status(0), 4);
    }

    private static void keepsTheOrderOfBytes() {
        TyreWorks x = new TyreWorks();
        int blanks = 0x20202020;
        int press = ('p' << 24) | ('r' << 16) | ('e' << 8) | 's';
        Check.due("feed", x.feed(press, ('s' << 24) | (' ' << 16) | ('a' << 8) | ';', blanks, blanks, blanks), 20);
        Check.due("works", x.works(), 1);
        Check.due("name", x.letter(3, 0, 0), 'a');
        Check.due("the tape is gone", x.end(1), false);
        Check.due("high bytes count as 128 .. 255", x.feed(-1, -1, 0, 0, 0), 20);
        Check.due("end", x.end(8), true);
        Check.due("wave", x.wave(TyreWorks.NONE), true);
    }
}
