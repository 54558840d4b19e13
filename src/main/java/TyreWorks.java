import java.util.Arrays;

/** Tyre works told as a text: batches, lots, green tyres, cures, and what can be asked of them. */
public final class TyreWorks {
    public static final int NONE = -1;

    private static final int MOST_BYTES = 1600;
    private static final int LAST_HOUR = 9999;
    private static final int MOST_BATCHES = 24;
    private static final int MOST_LOTS = 40;
    private static final int MOST_TYRES = 60;
    private static final int MOST_MIXES = 6;
    private static final int MOST_PARTS = 8;
    private static final int MOST_SIZES = 6;
    private static final int MOST_PRESSES = 4;
    private static final int MOST_MOULDS = 8;
    private static final int MOST_ORDERS = 8;
    private static final int MOST_LAWS = 8;
    private static final int MOST_OPEN = 8;
    private static final int MOST_TOLD_PARTS = 12;
    private static final int PLACES = 8;

    // What a text tells, as has() and letter() number it; the last two are counted for their limits alone.
    private static final int MIXES = 0;
    private static final int PARTS = 1;
    private static final int SIZES = 2;
    private static final int PRESSES = 3;
    private static final int MOULDS = 4;
    private static final int ORDERS = 5;
    private static final int LAWS = 6;
    private static final int NEEDS = 7;
    private static final int CHANGES = 8;

    private static final int GREEN = 0;
    private static final int IN_PRESS = 1;
    private static final int CURED = 2;
    private static final int SCRAPPED = 3;

    // The OWN WORDS by their places in Text.OWN_WORDS; no sign's byte is as low, so an act in a LAW is either.
    private static final int W_MIX = 0;
    private static final int W_RIPE = 1;
    private static final int W_STALE = 2;
    private static final int W_PART = 3;
    private static final int W_OF = 4;
    private static final int W_TAKES = 5;
    private static final int W_WIDE = 6;
    private static final int W_SIZE = 7;
    private static final int W_CURES = 8;
    private static final int W_NEEDS = 9;
    private static final int W_CHANGE = 10;
    private static final int W_PRESS = 11;
    private static final int W_MOULD = 12;
    private static final int W_LIVES = 13;
    private static final int W_ORDER = 14;
    private static final int W_BY = 15;
    private static final int W_SHEET = 16;
    private static final int W_SPLICE = 17;
    private static final int W_RESTS = 18;
    private static final int W_BAD = 19;
    private static final int W_WHEN = 20;
    private static final int W_OR = 21;
    private static final int W_AND = 22;
    private static final int W_NOT = 23;
    private static final int W_ALL = 24;
    private static final int W_OLD = 25;
    private static final int W_WORN = 26;
    private static final int W_AT = 27;
    private static final int W_KIND = 28;
    private static final int W_LAY = 29;
    private static final int W_MIN = 30;
    private static final int W_MAX = 31;
    private static final int OWN_WORD_COUNT = 32;

    private final Text text = new Text();
    private final Floor floor = new Floor();
    private final Ahead ahead = new Ahead();
    private final Packing packing = new Packing();
    private final Route leastRoute = new Route();
    private final int[] wheel = new int[PLACES];
    private final int[] written = new int[4 + 5 * MOST_TYRES];
    private int writtenLength;
    private int lastWaste = NONE;
    private final int[] refusals = new int[6];

    public TyreWorks() {
    }

    // ---- the tape and the text

    public int feed(int a, int b, int c, int d, int e) {
        if (text.length + 20 > MOST_BYTES) {
            return refuse(0);
        }
        text.put(a);
        text.put(b);
        text.put(c);
        text.put(d);
        text.put(e);
        return text.length;
    }

    private int refuse(int kind) {
        refusals[kind]++;
        return NONE;
    }

    public boolean end(int n) {
        if (n < 0 || n > text.length) {
            refuse(0);
            return false;
        }
        text.length = n;
        return true;
    }

    public int works() {
        int statements = text.read();
        text.length = 0;
        if (statements == NONE) {
            return refuse(1);
        }
        Plan told = text.plan;
        text.plan = floor.plan;
        floor.restart(told);
        return statements;
    }

    public int fault(int what) {
        switch (what) {
            case 0:
                return text.fault;
            case 1:
                return text.faultPlace;
            default:
                return NONE;
        }
    }

    public int has(int what) {
        if (what >= MIXES && what <= LAWS) {
            return floor.plan.told[what];
        }
        switch (what) {
            case 7:
                return floor.hour;
            case 8:
                return floor.batchCount;
            case 9:
                return floor.lotCount;
            case 10:
                return floor.tyreCount;
            case 11:
                return floor.mountings;
            default:
                return NONE;
        }
    }

    public int letter(int kind, int which, int k) {
        if (kind < MIXES || kind > MOULDS || !floor.plan.isTold(kind, which) || k < 0 || k >= Text.MOST_LETTERS) {
            return NONE;
        }
        return Text.letterOf(floor.plan.names[kind][which], k);
    }

    public int needs(int size, int part) {
        if (!floor.plan.isTold(SIZES, size) || !floor.plan.isTold(PARTS, part)) {
            return NONE;
        }
        return floor.plan.needed[size][part];
    }

    public int change(int from, int to) {
        if (!floor.plan.isTold(SIZES, from) || !floor.plan.isTold(SIZES, to)) {
            return NONE;
        }
        return floor.plan.hoursBetween(from, to);
    }

    public int batch(int batch, int what) {
        if (!floor.isBatch(batch)) {
            return NONE;
        }
        switch (what) {
            case 0:
                return floor.batches[batch].mix;
            case 1:
                return floor.batches[batch].pounds;
            case 2:
                return floor.ageOf(batch);
            case 3:
                return floor.isFit(batch) ? 1 : 0;
            case 4:
                return floor.hoursUntilFit(batch);
            case 5:
                return floor.hoursFit(batch);
            default:
                return NONE;
        }
    }

    public int lot(int lot, int what) {
        if (lot < 0 || lot >= floor.lotCount) {
            return NONE;
        }
        Lot asked = floor.lots[lot];
        switch (what) {
            case 0:
                return asked.part;
            case 1:
                return asked.batch;
            case 2:
                return asked.left;
            case 3:
                return floor.isFit(asked.batch) ? 1 : 0;
            default:
                return NONE;
        }
    }

    public int tyre(int tyre, int what) {
        if (!floor.isTyre(tyre)) {
            return NONE;
        }
        Tyre asked = floor.tyres[tyre];
        switch (what) {
            case 0:
                return asked.size;
            case 1:
                return floor.states[tyre];
            case 2:
                return asked.built;
            case 3:
                return asked.batches;
            case 4:
                return asked.old;
            case 5:
                return asked.worn;
            case 6:
                return asked.press;
            case 7:
                return asked.lay();
            case 8:
                return floor.states[tyre] == CURED ? (floor.isBad(tyre) ? 1 : 0) : NONE;
            default:
                return NONE;
        }
    }

    public int press(int press, int what) {
        if (!floor.plan.isTold(PRESSES, press)) {
            return NONE;
        }
        Press asked = floor.presses[press];
        switch (what) {
            case 0:
                return asked.mould;
            case 1:
                return asked.tyre;
            case 2:
                return asked.tyre == NONE ? floor.hour : asked.free;
            default:
                return NONE;
        }
    }

    public int mould(int mould, int what) {
        if (!floor.plan.isTold(MOULDS, mould)) {
            return NONE;
        }
        switch (what) {
            case 0:
                return floor.plan.mouldSize[mould];
            case 1:
                return floor.mouldPress[mould];
            case 2:
                return floor.mouldCures[mould];
            case 3:
                return floor.plan.lives[mould];
            default:
                return NONE;
        }
    }

    // ---- acts

    public int mix(int mix, int pounds) {
        if (!floor.plan.isTold(MIXES, mix) || pounds < 1 || pounds > 999 || floor.batchCount >= MOST_BATCHES) {
            return refuse(2);
        }
        return floor.makeBatch(mix, pounds);
    }

    public int cut(int batch, int part, int n) {
        if (!floor.isBatch(batch) || !floor.plan.isTold(PARTS, part) || n < 1 || n > 60
                || !floor.canCut(batch, part, n)) {
            return refuse(2);
        }
        return floor.makeLot(batch, part, n);
    }

    public int build(int size) {
        if (!floor.plan.isTold(SIZES, size) || !floor.canBuild(size)) {
            return refuse(2);
        }
        return floor.makeTyre(size);
    }

    public boolean mount(int press, int mould) {
        if (!floor.plan.isTold(PRESSES, press) || !floor.plan.isTold(MOULDS, mould)
                || floor.mouldPress[mould] != NONE || floor.presses[press].tyre != NONE) {
            refuse(3);
            return false;
        }
        floor.setMould(press, mould);
        return true;
    }

    public int cure(int press) {
        int started = floor.plan.isTold(PRESSES, press) ? floor.startCure(press) : NONE;
        return started == NONE ? refuse(3) : started;
    }

    public int clean(int mould) {
        if (!floor.plan.isTold(MOULDS, mould) || floor.isCuring(mould)) {
            return refuse(3);
        }
        int had = floor.mouldCures[mould];
        floor.mouldCures[mould] = 0;
        return had;
    }

    public boolean scrap(int tyre) {
        if (!floor.isTyre(tyre) || (floor.states[tyre] != GREEN && floor.states[tyre] != CURED)) {
            refuse(3);
            return false;
        }
        floor.states[tyre] = SCRAPPED;
        return true;
    }

    public int hours(int n) {
        if (n < 1 || n > 999 || floor.hour + n > LAST_HOUR) {
            return refuse(4);
        }
        return floor.passTo(floor.hour + n);
    }

    public int goOn(int n) {
        if (n < 1 || n > 200) {
            return refuse(4);
        }
        return floor.runFor(n);
    }

    // ---- what is asked

    public int stock(int part) {
        return floor.plan.isTold(PARTS, part) ? floor.fitParts(part) : NONE;
    }

    public int count(int size, int state) {
        if (!floor.plan.isTold(SIZES, size) || state < GREEN || state > SCRAPPED) {
            return NONE;
        }
        return floor.tyresOf(size, state);
    }

    public int could(int size) {
        return floor.plan.isTold(SIZES, size) ? floor.enoughFor(size) : NONE;
    }

    public int trace(int batch, int k) {
        if (!floor.isBatch(batch) || k < 0) {
            return NONE;
        }
        int passed = 0;
        for (int t = 0; t < floor.tyreCount; t++) {
            if (floor.tyres[t].hasBatch(batch)) {
                if (passed == k) {
                    return t;
                }
                passed++;
            }
        }
        return NONE;
    }

    public int others(int batch) {
        if (!floor.isBatch(batch)) {
            return NONE;
        }
        int together = 0;
        for (int t = 0; t < floor.tyreCount; t++) {
            if (floor.tyres[t].hasBatch(batch)) {
                together |= floor.tyres[t].batches;
            }
        }
        return together & ~(1 << batch);
    }

    public int bad(int size) {
        if (size != NONE && !floor.plan.isTold(SIZES, size)) {
            return NONE;
        }
        int found = 0;
        for (int t = 0; t < floor.tyreCount; t++) {
            if ((size == NONE || floor.tyres[t].size == size) && floor.isBad(t)) {
                found++;
            }
        }
        return found;
    }

    public int law(int tyre) {
        return floor.isTyre(tyre) ? floor.lawAgainst(tyre) : NONE;
    }

    public int sheets() {
        int n = text.length;
        text.length = 0;
        lastWaste = NONE;
        if (n < 1 || n > MOST_TOLD_PARTS) {
            return refuse(5);
        }
        for (int i = 0; i < n; i++) {
            int part = text.tape[i];
            if (!floor.plan.isTold(PARTS, part)) {
                return refuse(5);
            }
            packing.widths[i] = floor.plan.wide[part];
        }
        int fewest = packing.fewest(n, floor.plan.sheet, floor.plan.splice);
        if (fewest != NONE) {
            lastWaste = floor.plan.sheet * fewest - packing.allWidths(n);
        }
        return fewest;
    }

    public int waste() {
        return lastWaste;
    }

    public int route(int k) {
        if (k < NONE || k >= MOST_SIZES) {
            return NONE;
        }
        leastRoute.find(floor.plan, floor.lastBuilt);
        if (k == NONE) {
            return leastRoute.hours;
        }
        return k < leastRoute.length ? leastRoute.best[k] : NONE;
    }

    public int starves(int press) {
        if (!floor.plan.isTold(PRESSES, press)) {
            return NONE;
        }
        ahead.look(floor);
        return ahead.starved[press];
    }

    public int kept(int order) {
        if (!floor.plan.isTold(ORDERS, order)) {
            return NONE;
        }
        ahead.look(floor);
        int size = floor.plan.orderSize[order];
        int by = floor.plan.due[order];
        return ahead.curedBy(floor, size, by) >= floor.plan.askedUpTo(order) ? 1 : 0;
    }

    public int when(int order) {
        if (!floor.plan.isTold(ORDERS, order)) {
            return NONE;
        }
        ahead.look(floor);
        return ahead.firstHourWith(floor, floor.plan.orderSize[order], floor.plan.askedUpTo(order));
    }

    public boolean wave(int tyre) {
        int n = text.length;
        text.length = 0;
        if (n != PLACES || (tyre != NONE && !floor.isTyre(tyre))) {
            refuse(5);
            return false;
        }
        System.arraycopy(text.tape, 0, tyre == NONE ? wheel : floor.tyres[tyre].wave, 0, PLACES);
        return true;
    }

    public int spread(int tyre, int r) {
        if (!floor.isTyre(tyre) || r < 0 || r >= PLACES) {
            return NONE;
        }
        return spreadOf(floor.tyres[tyre].wave, r);
    }

    private int spreadOf(int[] wave, int r) {
        int least = wave[0] + wheel[r];
        int greatest = least;
        for (int i = 1; i < PLACES; i++) {
            int sum = wave[i] + wheel[(i + r) % PLACES];
            least = Math.min(least, sum);
            greatest = Math.max(greatest, sum);
        }
        return greatest - least;
    }

    public int turn(int tyre) {
        return floor.isTyre(tyre) ? bestTurn(floor.tyres[tyre].wave) : NONE;
    }

    private int bestTurn(int[] wave) {
        int best = 0;
        int least = spreadOf(wave, 0);
        for (int r = 1; r < PLACES; r++) {
            int found = spreadOf(wave, r);
            if (found < least) {
                least = found;
                best = r;
            }
        }
        return best;
    }

    public int match() {
        int best = NONE;
        int least = 0;
        for (int t = 0; t < floor.tyreCount; t++) {
            if (floor.states[t] == CURED && !floor.isBad(t)) {
                int[] wave = floor.tyres[t].wave;
                int found = spreadOf(wave, bestTurn(wave));
                if (best == NONE || found < least) {
                    best = t;
                    least = found;
                }
            }
        }
        return best;
    }

    public int pounds(int what) {
        if (what < 0 || what > 6) {
            return NONE;
        }
        int all = 0;
        if (what == 0 || what == 6) {
            all += floor.poundsInBatches();
        }
        if (what == 1 || what == 6) {
            all += floor.poundsInLots();
        }
        for (int state = GREEN; state <= SCRAPPED; state++) {
            if (what == 2 + state || what == 6) {
                all += floor.poundsInTyres(state);
            }
        }
        return all;
    }

    // ---- images

    public int image() {
        writtenLength = 0;
        write(floor.hour >> 8);
        write(floor.hour & 255);
        write(floor.tyreCount);
        for (int t = 0; t < floor.tyreCount; t++) {
            Tyre tyre = floor.tyres[t];
            write(tyre.size);
            write(floor.states[t]);
            write((tyre.batches >> 16) & 255);
            write((tyre.batches >> 8) & 255);
            write(tyre.batches & 255);
        }
        int check = 47;
        for (int k = 0; k < writtenLength; k++) {
            check = (3 * check + written[k]) % 241;
        }
        write(check);
        return writtenLength;
    }

    private void write(int octet) {
        if (writtenLength < written.length) {
            written[writtenLength] = octet;
            writtenLength++;
        }
    }

    public int octet(int k) {
        return k >= 0 && k < writtenLength ? written[k] : NONE;
    }

    public int status(int what) {
        return what >= 0 && what < refusals.length ? refusals[what] : NONE;
    }

    /** What a text of THE WORKS tells; its rows are used again for the next text. */
    private static final class Plan {
        private static final int[] MOST_TOLD = {MOST_MIXES, MOST_PARTS, MOST_SIZES, MOST_PRESSES, MOST_MOULDS, MOST_ORDERS,
            MOST_LAWS, 24, 30};

        final int[] told = new int[9];
        final int[][] names = new int[5][8];
        final int[] ripe = new int[MOST_MIXES];
        final int[] stale = new int[MOST_MIXES];
        final int[] partMix = new int[MOST_PARTS];
        final int[] takes = new int[MOST_PARTS];
        final int[] wide = new int[MOST_PARTS];
        final int[] curing = new int[MOST_SIZES];
        final int[][] needed = new int[MOST_SIZES][MOST_PARTS];
        final int[][] changing = new int[MOST_SIZES][MOST_SIZES];
        final int[] mouldSize = new int[MOST_MOULDS];
        final int[] lives = new int[MOST_MOULDS];
        final int[] orderSize = new int[MOST_ORDERS];
        final int[] asks = new int[MOST_ORDERS];
        final int[] due = new int[MOST_ORDERS];
        final Laws laws = new Laws();
        int sheet;
        int splice;
        int restLeast;
        int restMost;

        void clear() {
            Arrays.fill(told, 0);
            for (int s = 0; s < MOST_SIZES; s++) {
                Arrays.fill(needed[s], 0);
                Arrays.fill(changing[s], 1);
            }
            laws.length = 0;
            sheet = 100;
            splice = 0;
            restLeast = 0;
            restMost = 999;
        }

        boolean isTold(int kind, int which) {
            return which >= 0 && which < told[kind];
        }

        boolean isFull(int kind) {
            return told[kind] >= MOST_TOLD[kind];
        }

        int numberOf(int kind, int name) {
            for (int i = 0; i < told[kind]; i++) {
                if (names[kind][i] == name) {
                    return i;
                }
            }
            return NONE;
        }

        boolean isGiven(int name) {
            for (int kind = MIXES; kind <= MOULDS; kind++) {
                if (numberOf(kind, name) != NONE) {
                    return true;
                }
            }
            return false;
        }

        int addNamed(int kind, int name) {
            int number = told[kind];
            names[kind][number] = name;
            told[kind]++;
            return number;
        }

        int hoursBetween(int from, int to) {
            return from == NONE || from == to ? 0 : changing[from][to];
        }

        int poundsOf(int size) {
            int all = 0;
            for (int part = 0; part < told[PARTS]; part++) {
                all += needed[size][part] * takes[part];
            }
            return all;
        }

        int askedOf(int size) {
            int all = 0;
            for (int order = 0; order < told[ORDERS]; order++) {
                if (orderSize[order] == size) {
                    all += asks[order];
                }
            }
            return all;
        }

        /** What an ORDER and all ahead of it for its SIZE ask together. */
        int askedUpTo(int order) {
            int all = 0;
            for (int o = 0; o <= order; o++) {
                if (orderSize[o] == orderSize[order]) {
                    all += asks[o];
                }
            }
            return all;
        }
    }

    /** The TESTS of the LAWS, each as code for a stack: a number at least 0 is itself, an act is ~act. */
    private static final class Laws {
        private static final int GREATEST = 1000000;

        final int[] code = new int[MOST_BYTES];
        final int[] starts = new int[MOST_LAWS + 1];
        int length;
        private final int[] stack = new int[64];
        private int height;

        void emit(int step) {
            if (length < code.length) {
                code[length] = step;
                length++;
            }
        }

        boolean holds(int law, Tyre tyre) {
            height = 0;
            for (int i = starts[law]; i < starts[law + 1]; i++) {
                if (code[i] >= 0) {
                    push(code[i]);
                } else {
                    act(~code[i], tyre);
                }
            }
            return pop() != 0;
        }

        private void push(int value) {
            if (height < stack.length) {
                stack[height] = value;
                height++;
            }
        }

        private int pop() {
            if (height <= 0) {
                return 0;
            }
            height--;
            return stack[height];
        }

        private void act(int act, Tyre tyre) {
            switch (act) {
                case W_ALL:
                    push(1);
                    break;
                case W_OLD:
                    push(tyre.old);
                    break;
                case W_WORN:
                    push(tyre.worn);
                    break;
                case W_AT:
                    push(tyre.press);
                    break;
                case W_KIND:
                    push(tyre.size);
                    break;
                case W_LAY:
                    push(tyre.lay());
                    break;
                case W_NOT:
                    push(1 - pop());
                    break;
                default:
                    int right = pop();
                    int left = pop();
                    push(joined(act, left, right));
                    break;
            }
        }

        private static int joined(int act, int left, int right) {
            switch (act) {
                case W_OR:
                    return left | right;
                case W_AND:
                    return left & right;
                case W_MIN:
                    return Math.min(left, right);
                case W_MAX:
                    return Math.max(left, right);
                case '<':
                    return left < right ? 1 : 0;
                case '>':
                    return left > right ? 1 : 0;
                case '=':
                    return left == right ? 1 : 0;
                case '+':
                    return within((long) left + right);
                case '-':
                    return within((long) left - right);
                case '*':
                    return within((long) left * right);
                case '/':
                    return right == 0 ? 0 : Math.floorDiv(left, right);
                case '%':
                    return right == 0 ? 0 : Math.floorMod(left, right);
                default:
                    return 0;
            }
        }

        private static int within(long value) {
            return (int) Math.max(-GREATEST, Math.min(GREATEST, value));
        }
    }

    /**
     * The tape, and how it is read as THE WORKS. A fault turns the token into STOP, which nothing takes:
     * all that is read behind it comes to nothing, and the first fault stays.
     */
    private static final class Text {
        static final int MOST_LETTERS = 6;
        private static final int MOST_DIGITS = 4;
        private static final String OWN_WORDS = "mix   ripe  stale part  of    takes wide  size  cures needs changepress mould lives order by    sheet splicerests bad   when  or    and   not   all   old   worn  at    kind  lay   min   max   ";
        private static final String SIGNS = ";<>=+-*/%()[],";

        // Kinds of token. STOP is a byte, or a word or number too long, with which nothing goes on.
        private static final int STOP = 0;
        private static final int END = 1;
        private static final int NAME = 2;
        private static final int OWN = 3;
        private static final int NUMBER = 4;
        private static final int SIGN = 5;

        // A word is held as a number of five bits a letter, the first letter lowest.
        private final int[] ownWords = new int[OWN_WORD_COUNT];
        final int[] tape = new int[MOST_BYTES];
        int length;
        private int at;
        private int token;
        private int value;
        private int place;
        int fault;
        int faultPlace = NONE;
        Plan plan = new Plan();

        Text() {
            for (int own = 0; own < OWN_WORD_COUNT; own++) {
                for (int k = 0; k < MOST_LETTERS; k++) {
                    char letter = OWN_WORDS.charAt(MOST_LETTERS * own + k);
                    ownWords[own] |= letter == ' ' ? 0 : (letter - 96) << (5 * k);
                }
            }
        }

        static int letterOf(int word, int k) {
            int letter = (word >> (5 * k)) & 31;
            return letter == 0 ? NONE : 96 + letter;
        }

        void put(int number) {
            for (int shift = 24; shift >= 0 && length < MOST_BYTES; shift -= 8) {
                tape[length] = (number >>> shift) & 255;
                length++;
            }
        }

        /** Tells the plan anew: how many STATEMENTS; NONE with a FAULT, the plan being of no use then. */
        int read() {
            plan.clear();
            at = 0;
            token = STOP;
            fault = 0;
            faultPlace = NONE;
            advance();
            int statements = 0;
            while (statements < MOST_BYTES && token != END && fault == 0) {
                switch (token == OWN ? value : NONE) {
                    case W_MIX:
                        readMix();
                        break;
                    case W_PART:
                        readPart();
                        break;
                    case W_SIZE:
                        readSize();
                        break;
                    case W_NEEDS:
                        readNeeds();
                        break;
                    case W_CHANGE:
                        readChange();
                        break;
                    case W_PRESS:
                        readPress();
                        break;
                    case W_MOULD:
                        readMould();
                        break;
                    case W_ORDER:
                        readOrder();
                        break;
                    case W_SHEET:
                        readSheet();
                        break;
                    case W_RESTS:
                        readRests();
                        break;
                    case W_BAD:
                        readLaw();
                        break;
                    default:
                        fail(1, place);
                        break;
                }
                take(SIGN, ';');
                statements++;
            }
            return fault == 0 ? statements : NONE;
        }

        private void fail(int which, int where) {
            if (fault == 0) {
                fault = which;
                faultPlace = where;
            }
            token = STOP;
        }

        // -- tokens

        private void advance() {
            int from = at;
            while (from < length && (tape[from] == 10 || tape[from] == 32)) {
                from++;
            }
            boolean apart = from > at || (token != NAME && token != OWN && token != NUMBER);
            int first = from < length ? tape[from] : NONE;
            at = from;
            place = from;
            token = STOP;
            if (first == NONE) {
                token = END;
            } else if (first >= 'a' && first <= 'z') {
                if (apart) {
                    scanWord();
                }
            } else if (first >= '0' && first <= '9') {
                if (apart) {
                    scanNumber();
                }
            } else if (SIGNS.indexOf((char) first) >= 0) {
                token = SIGN;
                value = first;
                at = from + 1;
            }
        }

        private void scanWord() {
            int word = 0;
            int n = 0;
            while (at < length && tape[at] >= 'a' && tape[at] <= 'z') {
                if (n == MOST_LETTERS) {
                    place = at;
                    return;
                }
                word |= (tape[at] - 96) << (5 * n);
                n++;
                at++;
            }
            token = NAME;
            value = word;
            for (int own = 0; own < OWN_WORD_COUNT; own++) {
                if (ownWords[own] == word) {
                    token = OWN;
                    value = own;
                }
            }
        }

        private void scanNumber() {
            int number = 0;
            int n = 0;
            while (at < length && tape[at] >= '0' && tape[at] <= '9') {
                if (n == MOST_DIGITS) {
                    place = at;
                    return;
                }
                number = 10 * number + tape[at] - '0';
                n++;
                at++;
            }
            token = NUMBER;
            value = number;
        }

        private boolean isAt(int kind, int what) {
            return token == kind && value == what;
        }

        private void take(int kind, int what) {
            if (isAt(kind, what)) {
                advance();
            } else {
                fail(1, place);
            }
        }

        private int takeNumber(int least, int most) {
            int number = value;
            if (token != NUMBER) {
                fail(1, place);
            } else if (number < least || number > most) {
                fail(4, place);
            } else {
                advance();
            }
            return number;
        }

        private int takeNewName() {
            int name = value;
            if (token != NAME) {
                fail(1, place);
            } else if (plan.isGiven(name)) {
                fail(2, place);
            } else {
                advance();
            }
            return name;
        }

        private int takeToldName(int kind) {
            if (token != NAME) {
                fail(1, place);
                return NONE;
            }
            int number = plan.numberOf(kind, value);
            if (number == NONE) {
                fail(3, place);
            } else {
                advance();
            }
            return number;
        }

        // -- statements

        /** Goes past a statement's first word, unless there are as many of its kind as may be. */
        private void begin(int kind) {
            if (plan.isFull(kind)) {
                fail(5, place);
            } else {
                advance();
            }
        }

        private void readMix() {
            begin(MIXES);
            int name = takeNewName();
            take(OWN, W_RIPE);
            int ripe = takeNumber(0, 999);
            take(OWN, W_STALE);
            int stale = takeNumber(ripe, 999);
            if (fault == 0) {
                int mix = plan.addNamed(MIXES, name);
                plan.ripe[mix] = ripe;
                plan.stale[mix] = stale;
            }
        }

        private void readPart() {
            begin(PARTS);
            int name = takeNewName();
            take(OWN, W_OF);
            int mix = takeToldName(MIXES);
            take(OWN, W_TAKES);
            int takes = takeNumber(1, 99);
            take(OWN, W_WIDE);
            int wide = takeNumber(1, 99);
            if (fault == 0) {
                int part = plan.addNamed(PARTS, name);
                plan.partMix[part] = mix;
                plan.takes[part] = takes;
                plan.wide[part] = wide;
            }
        }

        private void readSize() {
            begin(SIZES);
            int name = takeNewName();
            take(OWN, W_CURES);
            int curing = takeNumber(1, 99);
            if (fault == 0) {
                plan.curing[plan.addNamed(SIZES, name)] = curing;
            }
        }

        private void readNeeds() {
            begin(NEEDS);
            int size = takeToldName(SIZES);
            int number = takeNumber(1, 9);
            int where = place;
            int part = takeToldName(PARTS);
            if (fault == 0 && plan.needed[size][part] > 0) {
                fail(3, where);
            }
            if (fault == 0) {
                plan.needed[size][part] = number;
                plan.told[NEEDS]++;
            }
        }

        private void readChange() {
            begin(CHANGES);
            int from = takeToldName(SIZES);
            int where = place;
            int to = takeToldName(SIZES);
            if (fault == 0 && from == to) {
                fail(3, where);
            }
            int hours = takeNumber(0, 99);
            if (fault == 0) {
                plan.changing[from][to] = hours;
                plan.told[CHANGES]++;
            }
        }

        private void readPress() {
            begin(PRESSES);
            int name = takeNewName();
            if (fault == 0) {
                plan.addNamed(PRESSES, name);
            }
        }

        private void readMould() {
            begin(MOULDS);
            int name = takeNewName();
            take(OWN, W_OF);
            int size = takeToldName(SIZES);
            take(OWN, W_LIVES);
            int lives = takeNumber(1, 99);
            if (fault == 0) {
                int mould = plan.addNamed(MOULDS, name);
                plan.mouldSize[mould] = size;
                plan.lives[mould] = lives;
            }
        }

        private void readOrder() {
            begin(ORDERS);
            int size = takeToldName(SIZES);
            int asks = takeNumber(1, 60);
            take(OWN, W_BY);
            int due = takeNumber(0, LAST_HOUR);
            if (fault == 0) {
                int order = plan.told[ORDERS];
                plan.orderSize[order] = size;
                plan.asks[order] = asks;
                plan.due[order] = due;
                plan.told[ORDERS]++;
            }
        }

        private void readSheet() {
            advance();
            int sheet = takeNumber(1, 400);
            take(OWN, W_SPLICE);
            int splice = takeNumber(0, 9);
            plan.sheet = sheet;
            plan.splice = splice;
        }

        private void readRests() {
            advance();
            int least = takeNumber(0, 999);
            int most = takeNumber(least, 999);
            plan.restLeast = least;
            plan.restMost = most;
        }

        private void readLaw() {
            begin(LAWS);
            take(OWN, W_WHEN);
            int start = plan.laws.length;
            readTest(0);
            if (fault == 0) {
                int law = plan.told[LAWS];
                plan.laws.starts[law] = start;
                plan.laws.starts[law + 1] = plan.laws.length;
                plan.told[LAWS]++;
            }
        }

        // -- the TEST of a LAW: open is how many ( [ are open, which keeps the recursion low

        private void readTest(int open) {
            readBoth(open);
            for (int n = 0; n < MOST_BYTES && isAt(OWN, W_OR); n++) {
                advance();
                readBoth(open);
                plan.laws.emit(~W_OR);
            }
        }

        private void readBoth(int open) {
            readFact(open);
            for (int n = 0; n < MOST_BYTES && isAt(OWN, W_AND); n++) {
                advance();
                readFact(open);
                plan.laws.emit(~W_AND);
            }
        }

        private void readFact(int open) {
            boolean turned = false;
            for (int n = 0; n < MOST_BYTES && isAt(OWN, W_NOT); n++) {
                advance();
                turned = !turned;
            }
            if (isAt(SIGN, '[')) {
                if (opens('[', open)) {
                    readTest(open + 1);
                    take(SIGN, ']');
                }
            } else if (isAt(OWN, W_ALL)) {
                advance();
                plan.laws.emit(~W_ALL);
            } else {
                readSum(open);
                int sign = takeComparing();
                readSum(open);
                plan.laws.emit(~sign);
            }
            if (turned) {
                plan.laws.emit(~W_NOT);
            }
        }

        private int takeComparing() {
            int sign = value;
            if (token == SIGN && (sign == '<' || sign == '>' || sign == '=')) {
                advance();
            } else {
                fail(1, place);
            }
            return sign;
        }

        private boolean opens(int sign, int open) {
            if (!isAt(SIGN, sign)) {
                fail(1, place);
            } else if (open >= MOST_OPEN) {
                fail(5, place);
            } else {
                advance();
            }
            return fault == 0;
        }

        private void readSum(int open) {
            readProduct(open);
            for (int n = 0; n < MOST_BYTES && (isAt(SIGN, '+') || isAt(SIGN, '-')); n++) {
                int sign = value;
                advance();
                readProduct(open);
                plan.laws.emit(~sign);
            }
        }

        private void readProduct(int open) {
            readFactor(open);
            for (int n = 0; n < MOST_BYTES && (isAt(SIGN, '*') || isAt(SIGN, '/') || isAt(SIGN, '%')); n++) {
                int sign = value;
                advance();
                readFactor(open);
                plan.laws.emit(~sign);
            }
        }

        private void readFactor(int open) {
            int what = value;
            if (token == NUMBER) {
                advance();
                plan.laws.emit(what);
            } else if (token == OWN && what >= W_OLD && what <= W_LAY) {
                advance();
                plan.laws.emit(~what);
            } else if (token == OWN && (what == W_MIN || what == W_MAX)) {
                advance();
                readPair(open);
                plan.laws.emit(~what);
            } else if (opens('(', open)) {
                readSum(open + 1);
                take(SIGN, ')');
            }
        }

        private void readPair(int open) {
            if (opens('(', open)) {
                readSum(open + 1);
                take(SIGN, ',');
                readSum(open + 1);
                take(SIGN, ')');
            }
        }
    }

    private static final class Batch {
        int mix;
        int pounds;
        int made;
    }

    private static final class Lot {
        int part;
        int batch;
        int left;
    }

    private static final class Tyre {
        int size;
        int built;
        int batches;
        int old;
        int worn;
        int press;
        int started;
        final int[] wave = new int[PLACES];

        boolean hasBatch(int batch) {
            return (batches & (1 << batch)) != 0;
        }

        int lay() {
            return started == NONE ? NONE : started - built;
        }
    }

    private static final class Press {
        int mould = NONE;
        int tyre = NONE;
        int free;
    }

    /** What is made and mounted, and the HOUR. */
    private static final class Floor {
        Plan plan = new Plan();
        int hour;
        int lastBuilt = NONE;
        int mountings;
        final Batch[] batches = new Batch[MOST_BATCHES];
        int batchCount;
        final Lot[] lots = new Lot[MOST_LOTS];
        int lotCount;
        final Tyre[] tyres = new Tyre[MOST_TYRES];
        final int[] states = new int[MOST_TYRES];
        int tyreCount;
        final Press[] presses = new Press[MOST_PRESSES];
        final int[] mouldPress = new int[MOST_MOULDS];
        final int[] mouldCures = new int[MOST_MOULDS];

        Floor() {
            for (int i = 0; i < MOST_BATCHES; i++) {
                batches[i] = new Batch();
            }
            for (int i = 0; i < MOST_LOTS; i++) {
                lots[i] = new Lot();
            }
            for (int i = 0; i < MOST_TYRES; i++) {
                tyres[i] = new Tyre();
            }
            for (int i = 0; i < MOST_PRESSES; i++) {
                presses[i] = new Press();
            }
        }

        void restart(Plan now) {
            plan = now;
            hour = 0;
            lastBuilt = NONE;
            mountings = 0;
            batchCount = 0;
            lotCount = 0;
            tyreCount = 0;
            for (int p = 0; p < MOST_PRESSES; p++) {
                presses[p].mould = NONE;
                presses[p].tyre = NONE;
            }
            Arrays.fill(mouldPress, NONE);
            Arrays.fill(mouldCures, 0);
        }

        // -- batches and lots

        boolean isBatch(int batch) {
            return batch >= 0 && batch < batchCount;
        }

        int ageOf(int batch) {
            return hour - batches[batch].made;
        }

        boolean isFit(int batch) {
            int mix = batches[batch].mix;
            int age = hour - batches[batch].made;
            return age >= plan.ripe[mix] && age <= plan.stale[mix];
        }

        int hoursUntilFit(int batch) {
            int mix = batches[batch].mix;
            int age = ageOf(batch);
            return age > plan.stale[mix] ? NONE : Math.max(0, plan.ripe[mix] - age);
        }

        int hoursFit(int batch) {
            int mix = batches[batch].mix;
            int from = Math.max(ageOf(batch), plan.ripe[mix]);
            return Math.max(0, plan.stale[mix] - from + 1);
        }

        int makeBatch(int mix, int pounds) {
            Batch made = batches[batchCount];
            made.mix = mix;
            made.pounds = pounds;
            made.made = hour;
            batchCount++;
            return batchCount - 1;
        }

        boolean canCut(int batch, int part, int n) {
            return lotCount < MOST_LOTS && isFit(batch) && plan.partMix[part] == batches[batch].mix
                    && batches[batch].pounds >= n * plan.takes[part];
        }

        int makeLot(int batch, int part, int n) {
            batches[batch].pounds -= n * plan.takes[part];
            Lot made = lots[lotCount];
            made.part = part;
            made.batch = batch;
            made.left = n;
            lotCount++;
            return lotCount - 1;
        }

        int fitParts(int part) {
            int all = 0;
            for (int l = 0; l < lotCount; l++) {
                if (lots[l].part == part && isFit(lots[l].batch)) {
                    all += lots[l].left;
                }
            }
            return all;
        }

        // -- tyres

        boolean isTyre(int tyre) {
            return tyre >= 0 && tyre < tyreCount;
        }

        int tyresOf(int size, int state) {
            int all = 0;
            for (int t = 0; t < tyreCount; t++) {
                if (tyres[t].size == size && states[t] == state) {
                    all++;
                }
            }
            return all;
        }

        /** For how many TYRES of a SIZE the FIT LOTS have enough; NONE if it has no NEEDS. */
        int enoughFor(int size) {
            int fewest = NONE;
            for (int part = 0; part < plan.told[PARTS]; part++) {
                int need = plan.needed[size][part];
                if (need > 0) {
                    int enough = fitParts(part) / need;
                    fewest = fewest == NONE ? enough : Math.min(fewest, enough);
                }
            }
            return fewest;
        }

        private int hourBuilt(int size) {
            return hour + 1 + plan.hoursBetween(lastBuilt, size);
        }

        boolean canBuild(int size) {
            return tyreCount < MOST_TYRES && hourBuilt(size) <= LAST_HOUR && enoughFor(size) > 0;
        }

        int makeTyre(int size) {
            Tyre made = tyres[tyreCount];
            made.size = size;
            made.batches = takeParts(size);
            made.worn = NONE;
            made.press = NONE;
            made.started = NONE;
            Arrays.fill(made.wave, 0);
            passTo(hourBuilt(size));
            made.built = hour;
            made.old = oldestOf(made.batches);
            states[tyreCount] = GREEN;
            lastBuilt = size;
            tyreCount++;
            return tyreCount - 1;
        }

        private int takeParts(int size) {
            int used = 0;
            for (int part = 0; part < plan.told[PARTS]; part++) {
                int lack = plan.needed[size][part];
                for (int l = 0; l < lotCount && lack > 0; l++) {
                    if (lots[l].part == part && lots[l].left > 0 && isFit(lots[l].batch)) {
                        int taken = Math.min(lack, lots[l].left);
                        lots[l].left -= taken;
                        lack -= taken;
                        used |= 1 << lots[l].batch;
                    }
                }
            }
            return used;
        }

        private int oldestOf(int used) {
            int oldest = 0;
            for (int b = 0; b < batchCount; b++) {
                if ((used & (1 << b)) != 0) {
                    oldest = Math.max(oldest, ageOf(b));
                }
            }
            return oldest;
        }

        int lawAgainst(int tyre) {
            if (states[tyre] != CURED) {
                return NONE;
            }
            for (int law = 0; law < plan.told[LAWS]; law++) {
                if (plan.laws.holds(law, tyres[tyre])) {
                    return law;
                }
            }
            return NONE;
        }

        boolean isBad(int tyre) {
            return lawAgainst(tyre) != NONE;
        }

        // -- presses and moulds

        void setMould(int press, int mould) {
            int out = presses[press].mould;
            if (out != NONE) {
                mouldPress[out] = NONE;
            }
            presses[press].mould = mould;
            mouldPress[mould] = press;
            mountings++;
        }

        boolean isCuring(int mould) {
            int press = mouldPress[mould];
            return press != NONE && presses[press].tyre != NONE;
        }

        /** The TYRE that a MOULD would CURE in an hour, of TYRES and MOULDS being so. */
        int nextFor(int mould, int at, int[] tyreStates, int[] cures) {
            if (mould == NONE || cures[mould] >= plan.lives[mould]) {
                return NONE;
            }
            for (int t = 0; t < tyreCount; t++) {
                int rest = at - tyres[t].built;
                if (tyreStates[t] == GREEN && tyres[t].size == plan.mouldSize[mould]
                        && rest >= plan.restLeast && rest <= plan.restMost) {
                    return t;
                }
            }
            return NONE;
        }

        int startCure(int press) {
            Press used = presses[press];
            int tyre = used.tyre == NONE ? nextFor(used.mould, hour, states, mouldCures) : NONE;
            if (tyre == NONE) {
                return NONE;
            }
            Tyre begun = tyres[tyre];
            begun.worn = mouldCures[used.mould];
            begun.press = press;
            begun.started = hour;
            states[tyre] = IN_PRESS;
            mouldCures[used.mould]++;
            used.tyre = tyre;
            used.free = curedAt(tyre);
            return tyre;
        }

        int curedAt(int tyre) {
            return tyres[tyre].started + plan.curing[tyres[tyre].size];
        }

        // -- hours

        /** No CURE begins while hours go by, so a PRESS ends one at most. */
        int passTo(int later) {
            int ended = 0;
            for (int p = 0; p < plan.told[PRESSES]; p++) {
                int tyre = presses[p].tyre;
                if (tyre != NONE && presses[p].free <= later) {
                    states[tyre] = CURED;
                    presses[p].tyre = NONE;
                    ended++;
                }
            }
            hour = later;
            return ended;
        }

        int runFor(int n) {
            int goal = hour + n;
            int built = 0;
            for (int turn = 0; turn < n && hour < goal; turn++) {
                for (int p = 0; p < plan.told[PRESSES]; p++) {
                    startCure(p);
                }
                int size = nextToBuild();
                if (size != NONE) {
                    makeTyre(size);
                    built++;
                } else if (hour < LAST_HOUR) {
                    passTo(hour + 1);
                } else {
                    break;
                }
            }
            return built;
        }

        private int nextToBuild() {
            for (int order = 0; order < plan.told[ORDERS]; order++) {
                int size = plan.orderSize[order];
                int there = tyresOf(size, GREEN) + tyresOf(size, IN_PRESS) + tyresOf(size, CURED);
                if (there < plan.askedOf(size) && canBuild(size)) {
                    return size;
                }
            }
            return NONE;
        }

        // -- pounds

        int poundsInBatches() {
            int all = 0;
            for (int b = 0; b < batchCount; b++) {
                all += batches[b].pounds;
            }
            return all;
        }

        int poundsInLots() {
            int all = 0;
            for (int l = 0; l < lotCount; l++) {
                all += lots[l].left * plan.takes[lots[l].part];
            }
            return all;
        }

        int poundsInTyres(int state) {
            int all = 0;
            for (int size = 0; size < plan.told[SIZES]; size++) {
                all += tyresOf(size, state) * plan.poundsOf(size);
            }
            return all;
        }
    }

    /** What comes by STARVES' way, worked out on copies. */
    private static final class Ahead {
        // A turn is one hour in which a CURE ends or a TYRE has rested enough: two a TYRE at most.
        private static final int MOST_TURNS = 2 * MOST_TYRES + 2;

        final int[] starved = new int[MOST_PRESSES];
        private final int[] free = new int[MOST_PRESSES];
        private final int[] cures = new int[MOST_MOULDS];
        private final int[] states = new int[MOST_TYRES];
        private final int[] cured = new int[MOST_TYRES];

        void look(Floor floor) {
            copy(floor);
            int at = floor.hour;
            for (int turn = 0; turn < MOST_TURNS && at <= LAST_HOUR; turn++) {
                cureIn(floor, at);
                at = nextHour(floor, at);
            }
        }

        private void copy(Floor floor) {
            Arrays.fill(starved, NONE);
            for (int p = 0; p < MOST_PRESSES; p++) {
                free[p] = floor.presses[p].tyre == NONE ? floor.hour : floor.presses[p].free;
            }
            System.arraycopy(floor.mouldCures, 0, cures, 0, MOST_MOULDS);
            System.arraycopy(floor.states, 0, states, 0, MOST_TYRES);
            for (int t = 0; t < floor.tyreCount; t++) {
                boolean sure = states[t] == IN_PRESS || states[t] == CURED;
                cured[t] = sure ? floor.curedAt(t) : NONE;
            }
        }

        private void cureIn(Floor floor, int at) {
            for (int p = 0; p < floor.plan.told[PRESSES]; p++) {
                if (free[p] > at) {
                    continue;
                }
                int mould = floor.presses[p].mould;
                int tyre = floor.nextFor(mould, at, states, cures);
                if (tyre != NONE) {
                    states[tyre] = IN_PRESS;
                    cures[mould]++;
                    free[p] = at + floor.plan.curing[floor.tyres[tyre].size];
                    cured[tyre] = free[p];
                } else if (starved[p] == NONE) {
                    starved[p] = at;
                }
            }
        }

        /** The next hour in which a PRESS becomes free or a GREEN TYRE has rested enough. */
        private int nextHour(Floor floor, int at) {
            int next = LAST_HOUR + 1;
            for (int p = 0; p < floor.plan.told[PRESSES]; p++) {
                if (free[p] > at) {
                    next = Math.min(next, free[p]);
                }
            }
            for (int t = 0; t < floor.tyreCount; t++) {
                int rested = floor.tyres[t].built + floor.plan.restLeast;
                if (states[t] == GREEN && rested > at) {
                    next = Math.min(next, rested);
                }
            }
            return next;
        }

        int curedBy(Floor floor, int size, int by) {
            int all = 0;
            for (int t = 0; t < floor.tyreCount; t++) {
                if (floor.tyres[t].size == size && cured[t] != NONE && cured[t] <= by) {
                    all++;
                }
            }
            return all;
        }

        int firstHourWith(Floor floor, int size, int number) {
            if (curedBy(floor, size, floor.hour) >= number) {
                return floor.hour;
            }
            int first = NONE;
            for (int t = 0; t < floor.tyreCount; t++) {
                int at = cured[t];
                if (at > floor.hour && at <= LAST_HOUR && (first == NONE || at < first)
                        && curedBy(floor, size, at) >= number) {
                    first = at;
                }
            }
            return first;
        }
    }

    /** The fewest sheets: for each set of parts the fewest, and of these the least filled last one. */
    private static final class Packing {
        private static final int FILL_BITS = 10;

        final int[] widths = new int[MOST_TOLD_PARTS];
        private final int[] best = new int[1 << MOST_TOLD_PARTS];

        int allWidths(int n) {
            int all = 0;
            for (int i = 0; i < n; i++) {
                all += widths[i];
            }
            return all;
        }

        int fewest(int n, int sheet, int splice) {
            for (int i = 0; i < n; i++) {
                if (widths[i] > sheet) {
                    return NONE;
                }
            }
            best[0] = 0;
            for (int set = 1; set < 1 << n; set++) {
                best[set] = bestOf(set, n, sheet, splice);
            }
            return best[(1 << n) - 1] >> FILL_BITS;
        }

        private int bestOf(int set, int n, int sheet, int splice) {
            int least = (n + 1) << FILL_BITS;
            for (int i = 0; i < n; i++) {
                if ((set & (1 << i)) != 0) {
                    least = Math.min(least, with(best[set ^ (1 << i)], widths[i], sheet, splice));
                }
            }
            return least;
        }

        private static int with(int packed, int width, int sheet, int splice) {
            int count = packed >> FILL_BITS;
            int fill = packed & ((1 << FILL_BITS) - 1);
            if (count > 0 && fill + splice + width <= sheet) {
                return packed + splice + width;
            }
            return ((count + 1) << FILL_BITS) + width;
        }
    }

    /** The SIZES that are asked, in the order of the least change: all orders are tried, first by numbers. */
    private static final class Route {
        private static final int MOST_TRIED = 720;

        final int[] best = new int[MOST_SIZES];
        int length;
        int hours;
        private final int[] tried = new int[MOST_SIZES];

        void find(Plan plan, int from) {
            length = 0;
            for (int size = 0; size < plan.told[SIZES]; size++) {
                if (plan.askedOf(size) > 0) {
                    tried[length] = size;
                    length++;
                }
            }
            hours = NONE;
            boolean more = true;
            for (int n = 0; n < MOST_TRIED && more; n++) {
                int found = hoursOf(plan, from);
                if (hours == NONE || found < hours) {
                    hours = found;
                    System.arraycopy(tried, 0, best, 0, length);
                }
                more = stepOn();
            }
        }

        private int hoursOf(Plan plan, int from) {
            int all = 0;
            int last = from;
            for (int i = 0; i < length; i++) {
                all += plan.hoursBetween(last, tried[i]);
                last = tried[i];
            }
            return all;
        }

        /** Makes the next order by numbers; false behind the last one. */
        private boolean stepOn() {
            int i = length - 2;
            while (i >= 0 && tried[i] > tried[i + 1]) {
                i--;
            }
            if (i < 0) {
                return false;
            }
            int j = length - 1;
            while (j > i && tried[j] < tried[i]) {
                j--;
            }
            swap(i, j);
            for (int low = i + 1, high = length - 1; low < high; low++, high--) {
                swap(low, high);
            }
            return true;
        }

        private void swap(int i, int j) {
            int kept = tried[i];
            tried[i] = tried[j];
            tried[j] = kept;
        }
    }
}
