import java.util.ArrayList;
import java.util.Arrays;
import java.util.HashMap;
import java.util.HashSet;
import java.util.List;
import java.util.Map;
import java.util.Set;

/** The document once more, in the slowest and plainest way: a works that lives hour by hour, with all of Java's library. */
final class Twin {
    static final int NONE = -1;
    private static final Set<String> OWN = Set.of(("mix ripe stale part of takes wide size cures needs change press mould "
            + "lives order by sheet splice rests bad when or and not all old worn at kind lay min max").split(" "));

    /** What stops a text: which fault, and where. */
    private static final class Stop extends RuntimeException {
        private static final long serialVersionUID = 1L;
        final int which;
        final int place;

        Stop(int which, int place) {
            super("fault " + which + " at " + place, null, false, false);
            this.which = which;
            this.place = place;
        }
    }

    interface Sum {
        int of(Tyre tyre);
    }

    interface Test {
        boolean of(Tyre tyre);
    }

    record Mix(String name, int ripe, int stale) { }

    record Part(String name, int mix, int takes, int wide) { }

    record Size(String name, int cures, Map<Integer, Integer> needs, Map<Integer, Integer> changes) { }

    record Mould(String name, int size, int lives) { }

    record Order(int size, int asks, int by) { }

    /** What a text tells. */
    static final class Told {
        final List<Mix> mixes = new ArrayList<>();
        final List<Part> parts = new ArrayList<>();
        final List<Size> sizes = new ArrayList<>();
        final List<String> presses = new ArrayList<>();
        final List<Mould> moulds = new ArrayList<>();
        final List<Order> orders = new ArrayList<>();
        final List<Test> laws = new ArrayList<>();
        int needs;
        int changes;
        int sheet = 100;
        int splice;
        int restLeast;
        int restMost = 999;
        int statements;

        List<String> names(int kind) {
            switch (kind) {
                case 0:
                    return mixes.stream().map(Mix::name).toList();
                case 1:
                    return parts.stream().map(Part::name).toList();
                case 2:
                    return sizes.stream().map(Size::name).toList();
                case 3:
                    return presses;
                case 4:
                    return moulds.stream().map(Mould::name).toList();
                default:
                    return List.of();
            }
        }

        int change(int from, int to) {
            return from == NONE || from == to ? 0 : sizes.get(from).changes.getOrDefault(to, 1);
        }

        int asked(int size, int orderCount) {
            int all = 0;
            for (Order order : orders.subList(0, orderCount)) {
                all += order.size == size ? order.asks : 0;
            }
            return all;
        }
    }

    static final class Tyre {
        int size;
        int state;
        int built;
        Set<Integer> batches = new HashSet<>();
        int old;
        int worn = NONE;
        int press = NONE;
        int lay = NONE;
        int curedIn = NONE;
        int[] wave = new int[8];
    }

    static final class Batch {
        int mix;
        int pounds;
        int made;
    }

    static final class Lot {
        int part;
        int batch;
        int left;
    }

    // ---- reading

    private final class Reader {
        final byte[] text;
        final Told told = new Told();
        int at;
        String token;
        int place;
        boolean number;
        boolean word;
        int open;

        Reader(byte[] text) {
            this.text = text;
        }

        boolean letter(int k) {
            return k < text.length && text[k] >= 'a' && text[k] <= 'z';
        }

        boolean digit(int k) {
            return k < text.length && text[k] >= '0' && text[k] <= '9';
        }

        void next() {
            boolean touches = word || number;
            int before = at;
            while (at < text.length && (text[at] == 10 || text[at] == 32)) {
                at++;
            }
            touches &= before == at;
            place = at;
            word = letter(at);
            number = digit(at);
            if (at == text.length) {
                token = null;
            } else if (word || number) {
                if (touches) {
                    throw new Stop(1, at);
                }
                int start = at;
                while (word ? letter(at) : digit(at)) {
                    at++;
                    if (at - start > (word ? 6 : 4)) {
                        throw new Stop(1, at - 1);
                    }
                }
                token = new String(text, start, at - start, java.nio.charset.StandardCharsets.ISO_8859_1);
            } else if (";<>=+-*/%()[],".indexOf(text[at]) >= 0) {
                token = String.valueOf((char) text[at]);
                at++;
            } else {
                throw new Stop(1, at);
            }
        }

        boolean is(String what) {
            return what.equals(token);
        }

        void want(String what) {
            if (!is(what)) {
                throw new Stop(1, place);
            }
            next();
        }

        int number(int least, int most) {
            if (!number) {
                throw new Stop(1, place);
            }
            int value = Integer.parseInt(token);
            if (value < least || value > most) {
                throw new Stop(4, place);
            }
            next();
            return value;
        }

        String name() {
            if (!word || OWN.contains(token)) {
                throw new Stop(1, place);
            }
            return token;
        }

        String newName() {
            String name = name();
            for (int kind = 0; kind < 5; kind++) {
                if (told.names(kind).contains(name)) {
                    throw new Stop(2, place);
                }
            }
            next();
            return name;
        }

        int toldName(int kind) {
            int which = told.names(kind).indexOf(name());
            if (which < 0) {
                throw new Stop(3, place);
            }
            return which;
        }

        void room(int there, int most) {
            if (there >= most) {
                throw new Stop(5, place);
            }
            next();
        }

        void read() {
            next();
            while (token != null) {
                statement();
                want(";");
                told.statements++;
            }
        }

        void statement() {
            if (is("mix")) {
                room(told.mixes.size(), 6);
                String name = newName();
                want("ripe");
                int ripe = number(0, 999);
                want("stale");
                told.mixes.add(new Mix(name, ripe, number(ripe, 999)));
            } else if (is("part")) {
                room(told.parts.size(), 8);
                String name = newName();
                want("of");
                int mix = toldName(0);
                next();
                want("takes");
                int takes = number(1, 99);
                want("wide");
                told.parts.add(new Part(name, mix, takes, number(1, 99)));
            } else if (is("size")) {
                room(told.sizes.size(), 6);
                String name = newName();
                want("cures");
                told.sizes.add(new Size(name, number(1, 99), new HashMap<>(), new HashMap<>()));
            } else if (is("needs")) {
                room(told.needs, 24);
                Size size = told.sizes.get(toldName(2));
                next();
                int many = number(1, 9);
                int part = toldName(1);
                if (size.needs.containsKey(part)) {
                    throw new Stop(3, place);
                }
                next();
                size.needs.put(part, many);
                told.needs++;
            } else if (is("change")) {
                room(told.changes, 30);
                int from = toldName(2);
                next();
                int to = toldName(2);
                if (to == from) {
                    throw new Stop(3, place);
                }
                next();
                told.sizes.get(from).changes.put(to, number(0, 99));
                told.changes++;
            } else if (is("press")) {
                room(told.presses.size(), 4);
                told.presses.add(newName());
            } else if (is("mould")) {
                room(told.moulds.size(), 8);
                String name = newName();
                want("of");
                int size = toldName(2);
                next();
                want("lives");
                told.moulds.add(new Mould(name, size, number(1, 99)));
            } else if (is("order")) {
                room(told.orders.size(), 8);
                int size = toldName(2);
                next();
                int asks = number(1, 60);
                want("by");
                told.orders.add(new Order(size, asks, number(0, 9999)));
            } else if (is("sheet")) {
                next();
                told.sheet = number(1, 400);
                want("splice");
                told.splice = number(0, 9);
            } else if (is("rests")) {
                next();
                told.restLeast = number(0, 999);
                told.restMost = number(told.restLeast, 999);
            } else if (is("bad")) {
                room(told.laws.size(), 8);
                want("when");
                told.laws.add(test());
            } else {
                throw new Stop(1, place);
            }
        }

        void open(String sign) {
            if (!is(sign)) {
                throw new Stop(1, place);
            }
            if (open == 8) {
                throw new Stop(5, place);
            }
            open++;
            next();
        }

        void close(String sign) {
            want(sign);
            open--;
        }

        Test test() {
            Test left = both();
            while (is("or")) {
                next();
                Test one = left;
                Test other = both();
                left = t -> one.of(t) || other.of(t);
            }
            return left;
        }

        Test both() {
            Test left = fact();
            while (is("and")) {
                next();
                Test one = left;
                Test other = fact();
                left = t -> one.of(t) && other.of(t);
            }
            return left;
        }

        Test fact() {
            if (is("not")) {
                next();
                Test inner = fact();
                return t -> !inner.of(t);
            }
            if (is("[")) {
                open("[");
                Test inner = test();
                close("]");
                return inner;
            }
            if (is("all")) {
                next();
                return t -> true;
            }
            Sum left = sum();
            String sign = token;
            if (!is("<") && !is(">") && !is("=")) {
                throw new Stop(1, place);
            }
            next();
            Sum right = sum();
            return t -> {
                int by = Integer.compare(left.of(t), right.of(t));
                return sign.equals("<") ? by < 0 : sign.equals(">") ? by > 0 : by == 0;
            };
        }

        Sum sum() {
            Sum left = product();
            while (is("+") || is("-")) {
                String sign = token;
                next();
                Sum one = left;
                Sum other = product();
                left = t -> kept(sign.equals("+") ? (long) one.of(t) + other.of(t) : (long) one.of(t) - other.of(t));
            }
            return left;
        }

        Sum product() {
            Sum left = part();
            while (is("*") || is("/") || is("%")) {
                String sign = token;
                next();
                Sum one = left;
                Sum other = part();
                left = t -> {
                    long a = one.of(t);
                    long b = other.of(t);
                    if (sign.equals("*")) {
                        return kept(a * b);
                    }
                    if (b == 0) {
                        return 0;
                    }
                    long whole = notAbove(a, b);
                    return (int) (sign.equals("/") ? whole : a - whole * b);
                };
            }
            return left;
        }

        Sum part() {
            if (number) {
                int value = Integer.parseInt(token);
                next();
                return t -> value;
            }
            if (is("min") || is("max")) {
                boolean min = is("min");
                next();
                open("(");
                Sum one = sum();
                want(",");
                Sum other = sum();
                close(")");
                return t -> min ? Math.min(one.of(t), other.of(t)) : Math.max(one.of(t), other.of(t));
            }
            String what = token;
            if (is("old") || is("worn") || is("at") || is("kind") || is("lay")) {
                next();
                switch (what) {
                    case "old":
                        return t -> t.old;
                    case "worn":
                        return t -> t.worn;
                    case "at":
                        return t -> t.press;
                    case "kind":
                        return t -> t.size;
                    default:
                        return t -> t.lay;
                }
            }
            open("(");
            Sum inner = sum();
            close(")");
            return inner;
        }
    }

    private static int kept(long value) {
        return value > 1000000 ? 1000000 : value < -1000000 ? -1000000 : (int) value;
    }

    /** The greatest whole number not above a / b. */
    private static long notAbove(long a, long b) {
        double exact = (double) a / b;
        long whole = (long) exact - 2;
        while (b > 0 ? (whole + 1) * b <= a : (whole + 1) * b >= a) {
            whole++;
        }
        return whole;
    }

    // ---- state

    private byte[] tape = new byte[0];
    private Told told = new Told();
    private int fault;
    private int faultPlace = NONE;
    private int hour;
    private int lastBuilt = NONE;
    private int mountings;
    private final List<Batch> batches = new ArrayList<>();
    private final List<Lot> lots = new ArrayList<>();
    private final List<Tyre> tyres = new ArrayList<>();
    private int[] pressMould = new int[0];
    private int[] pressTyre = new int[0];
    private int[] pressFree = new int[0];
    private int[] mouldCures = new int[0];
    private final int[] wheel = new int[8];
    private int waste = NONE;
    private List<Integer> image = List.of();
    private final int[] refusals = new int[6];

    private int no(int kind) {
        refusals[kind]++;
        return NONE;
    }

    private static boolean in(int which, int count) {
        return which >= 0 && which < count;
    }

    int feed(int a, int b, int c, int d, int e) {
        int[] five = {a, b, c, d, e};
        if (tape.length > 1580) {
            return no(0);
        }
        int n = tape.length;
        tape = Arrays.copyOf(tape, n + 20);
        for (int i = 0; i < 20; i++) {
            tape[n + i] = (byte) (five[i / 4] >> (24 - i % 4 * 8));
        }
        return n + 20;
    }

    boolean end(int n) {
        if (n < 0 || n > tape.length) {
            no(0);
            return false;
        }
        tape = Arrays.copyOf(tape, n);
        return true;
    }

    private byte[] take() {
        byte[] taken = tape;
        tape = new byte[0];
        return taken;
    }

    int works() {
        Reader reader = new Reader(take());
        fault = 0;
        faultPlace = NONE;
        try {
            reader.read();
        } catch (Stop stop) {
            fault = stop.which;
            faultPlace = stop.place;
            return no(1);
        }
        told = reader.told;
        hour = 0;
        lastBuilt = NONE;
        mountings = 0;
        batches.clear();
        lots.clear();
        tyres.clear();
        pressMould = new int[told.presses.size()];
        pressTyre = new int[told.presses.size()];
        pressFree = new int[told.presses.size()];
        Arrays.fill(pressMould, NONE);
        Arrays.fill(pressTyre, NONE);
        mouldCures = new int[told.moulds.size()];
        return told.statements;
    }

    int fault(int what) {
        return what == 0 ? fault : what == 1 ? faultPlace : NONE;
    }

    int has(int what) {
        int[] all = {told.mixes.size(), told.parts.size(), told.sizes.size(), told.presses.size(), told.moulds.size(),
            told.orders.size(), told.laws.size(), hour, batches.size(), lots.size(), tyres.size(), mountings};
        return in(what, all.length) ? all[what] : NONE;
    }

    int letter(int kind, int which, int k) {
        List<String> names = told.names(kind);
        return in(which, names.size()) && in(k, names.get(which).length()) ? names.get(which).charAt(k) : NONE;
    }

    int needs(int size, int part) {
        boolean there = in(size, told.sizes.size()) && in(part, told.parts.size());
        return there ? told.sizes.get(size).needs.getOrDefault(part, 0) : NONE;
    }

    int change(int from, int to) {
        return in(from, told.sizes.size()) && in(to, told.sizes.size()) ? told.change(from, to) : NONE;
    }

    private boolean fit(int batch) {
        return fitAt(batch, hour);
    }

    private boolean fitAt(int batch, int at) {
        Mix mix = told.mixes.get(batches.get(batch).mix);
        int age = at - batches.get(batch).made;
        return mix.ripe <= age && age <= mix.stale;
    }

    int batch(int batch, int what) {
        if (!in(batch, batches.size())) {
            return NONE;
        }
        Batch b = batches.get(batch);
        switch (what) {
            case 0:
                return b.mix;
            case 1:
                return b.pounds;
            case 2:
                return hour - b.made;
            case 3:
                return fit(batch) ? 1 : 0;
            case 4:
                for (int h = hour; h < hour + 2000; h++) {
                    if (fitAt(batch, h)) {
                        return h - hour;
                    }
                }
                return NONE;
            case 5:
                int all = 0;
                for (int h = hour; h < hour + 2000; h++) {
                    all += fitAt(batch, h) ? 1 : 0;
                }
                return all;
            default:
                return NONE;
        }
    }

    int lot(int lot, int what) {
        if (!in(lot, lots.size())) {
            return NONE;
        }
        Lot l = lots.get(lot);
        return what == 0 ? l.part : what == 1 ? l.batch : what == 2 ? l.left : what == 3 ? (fit(l.batch) ? 1 : 0) : NONE;
    }

    int law(int tyre) {
        if (!in(tyre, tyres.size()) || tyres.get(tyre).state != 2) {
            return NONE;
        }
        for (int law = 0; law < told.laws.size(); law++) {
            if (told.laws.get(law).of(tyres.get(tyre))) {
                return law;
            }
        }
        return NONE;
    }

    private static int bits(Set<Integer> set) {
        int bits = 0;
        for (int one : set) {
            bits += 1 << one;
        }
        return bits;
    }

    int tyre(int tyre, int what) {
        if (!in(tyre, tyres.size()) || !in(what, 9)) {
            return NONE;
        }
        Tyre t = tyres.get(tyre);
        int good = t.state != 2 ? NONE : law(tyre) != NONE ? 1 : 0;
        return new int[] {t.size, t.state, t.built, bits(t.batches), t.old, t.worn, t.press, t.lay, good}[what];
    }

    int press(int press, int what) {
        if (!in(press, pressMould.length)) {
            return NONE;
        }
        boolean cures = pressTyre[press] != NONE;
        return what == 0 ? pressMould[press] : what == 1 ? pressTyre[press] : what != 2 ? NONE : cures ? pressFree[press] : hour;
    }

    private int pressOf(int mould) {
        for (int p = 0; p < pressMould.length; p++) {
            if (pressMould[p] == mould) {
                return p;
            }
        }
        return NONE;
    }

    int mould(int mould, int what) {
        if (!in(mould, mouldCures.length)) {
            return NONE;
        }
        Mould m = told.moulds.get(mould);
        return what == 0 ? m.size : what == 1 ? pressOf(mould) : what == 2 ? mouldCures[mould] : what == 3 ? m.lives : NONE;
    }

    // ---- acts

    int mix(int mix, int pounds) {
        if (!in(mix, told.mixes.size()) || pounds < 1 || pounds > 999 || batches.size() == 24) {
            return no(2);
        }
        Batch b = new Batch();
        b.mix = mix;
        b.pounds = pounds;
        b.made = hour;
        batches.add(b);
        return batches.size() - 1;
    }

    int cut(int batch, int part, int n) {
        if (!in(batch, batches.size()) || !in(part, told.parts.size()) || n < 1 || n > 60 || lots.size() == 40) {
            return no(2);
        }
        Batch b = batches.get(batch);
        Part p = told.parts.get(part);
        if (!fit(batch) || p.mix != b.mix || b.pounds - n * p.takes < 0) {
            return no(2);
        }
        b.pounds -= n * p.takes;
        Lot l = new Lot();
        l.part = part;
        l.batch = batch;
        l.left = n;
        lots.add(l);
        return lots.size() - 1;
    }

    int stock(int part) {
        if (!in(part, told.parts.size())) {
            return NONE;
        }
        int all = 0;
        for (Lot l : lots) {
            all += l.part == part && fit(l.batch) ? l.left : 0;
        }
        return all;
    }

    private boolean canBuild(int size) {
        if (tyres.size() == 60 || told.sizes.get(size).needs.isEmpty() || hour + 1 + told.change(lastBuilt, size) > 9999) {
            return false;
        }
        for (Map.Entry<Integer, Integer> need : told.sizes.get(size).needs.entrySet()) {
            if (stock(need.getKey()) < need.getValue()) {
                return false;
            }
        }
        return true;
    }

    /** One part at a time. */
    int build(int size) {
        if (!in(size, told.sizes.size()) || !canBuild(size)) {
            return no(2);
        }
        return doBuild(size);
    }

    private int doBuild(int size) {
        Tyre t = new Tyre();
        t.size = size;
        for (Map.Entry<Integer, Integer> need : told.sizes.get(size).needs.entrySet()) {
            for (int n = 0; n < need.getValue(); n++) {
                for (Lot l : lots) {
                    if (l.part == need.getKey() && l.left > 0 && fit(l.batch)) {
                        l.left--;
                        t.batches.add(l.batch);
                        break;
                    }
                }
            }
        }
        for (int n = told.change(lastBuilt, size) + 1; n > 0; n--) {
            step();
        }
        t.built = hour;
        for (int b : t.batches) {
            t.old = Math.max(t.old, hour - batches.get(b).made);
        }
        lastBuilt = size;
        tyres.add(t);
        return tyres.size() - 1;
    }

    /** One hour goes by: how many are cured in it. */
    private int step() {
        hour++;
        int ended = 0;
        for (int p = 0; p < pressTyre.length; p++) {
            if (pressTyre[p] != NONE && pressFree[p] == hour) {
                tyres.get(pressTyre[p]).state = 2;
                tyres.get(pressTyre[p]).curedIn = hour;
                pressTyre[p] = NONE;
                ended++;
            }
        }
        return ended;
    }

    boolean mount(int press, int mould) {
        if (!in(press, pressMould.length) || !in(mould, mouldCures.length)
                || pressOf(mould) != NONE || pressTyre[press] != NONE) {
            no(3);
            return false;
        }
        pressMould[press] = mould;
        mountings++;
        return true;
    }

    private int tryCure(int press) {
        int mould = pressMould[press];
        if (pressTyre[press] != NONE || mould == NONE || mouldCures[mould] >= told.moulds.get(mould).lives) {
            return NONE;
        }
        for (int n = 0; n < tyres.size(); n++) {
            Tyre t = tyres.get(n);
            int rest = hour - t.built;
            if (t.state == 0 && t.size == told.moulds.get(mould).size && rest >= told.restLeast && rest <= told.restMost) {
                t.state = 1;
                t.worn = mouldCures[mould]++;
                t.press = press;
                t.lay = rest;
                pressTyre[press] = n;
                pressFree[press] = hour + told.sizes.get(t.size).cures;
                return n;
            }
        }
        return NONE;
    }

    int cure(int press) {
        int n = in(press, pressMould.length) ? tryCure(press) : NONE;
        return n == NONE ? no(3) : n;
    }

    int clean(int mould) {
        if (!in(mould, mouldCures.length) || (pressOf(mould) != NONE && pressTyre[pressOf(mould)] != NONE)) {
            return no(3);
        }
        int had = mouldCures[mould];
        mouldCures[mould] = 0;
        return had;
    }

    boolean scrap(int tyre) {
        if (!in(tyre, tyres.size()) || tyres.get(tyre).state % 2 == 1) {
            no(3);
            return false;
        }
        tyres.get(tyre).state = 3;
        return true;
    }

    int hours(int n) {
        if (n < 1 || n > 999 || hour + n > 9999) {
            return no(4);
        }
        int ended = 0;
        for (int i = 0; i < n; i++) {
            ended += step();
        }
        return ended;
    }

    int goOn(int n) {
        if (n < 1 || n > 200) {
            return no(4);
        }
        int from = hour;
        int built = 0;
        while (hour - from < n) {
            for (int p = 0; p < pressMould.length; p++) {
                tryCure(p);
            }
            int size = NONE;
            for (Order order : told.orders) {
                int there = 0;
                for (Tyre t : tyres) {
                    there += t.size == order.size && t.state != 3 ? 1 : 0;
                }
                if (there < told.asked(order.size, told.orders.size()) && canBuild(order.size)) {
                    size = order.size;
                    break;
                }
            }
            if (size != NONE) {
                doBuild(size);
                built++;
            } else if (hour == 9999) {
                break;
            } else {
                step();
            }
        }
        return built;
    }

    // ---- what is asked

    int count(int size, int state) {
        if (!in(size, told.sizes.size()) || !in(state, 4)) {
            return NONE;
        }
        return (int) tyres.stream().filter(t -> t.size == size && t.state == state).count();
    }

    int could(int size) {
        if (!in(size, told.sizes.size()) || told.sizes.get(size).needs.isEmpty()) {
            return NONE;
        }
        int n = 0;
        while (true) {
            for (Map.Entry<Integer, Integer> need : told.sizes.get(size).needs.entrySet()) {
                if (stock(need.getKey()) < need.getValue() * (n + 1)) {
                    return n;
                }
            }
            n++;
        }
    }

    int trace(int batch, int k) {
        if (!in(batch, batches.size())) {
            return NONE;
        }
        List<Integer> with = new ArrayList<>();
        for (int t = 0; t < tyres.size(); t++) {
            if (tyres.get(t).batches.contains(batch)) {
                with.add(t);
            }
        }
        return in(k, with.size()) ? with.get(k) : NONE;
    }

    int others(int batch) {
        if (!in(batch, batches.size())) {
            return NONE;
        }
        Set<Integer> together = new HashSet<>();
        for (Tyre t : tyres) {
            if (t.batches.contains(batch)) {
                together.addAll(t.batches);
            }
        }
        together.remove(batch);
        return bits(together);
    }

    int bad(int size) {
        if (size != NONE && !in(size, told.sizes.size())) {
            return NONE;
        }
        int all = 0;
        for (int t = 0; t < tyres.size(); t++) {
            all += (size == NONE || tyres.get(t).size == size) && law(t) != NONE ? 1 : 0;
        }
        return all;
    }

    int sheets() {
        byte[] list = take();
        waste = NONE;
        if (list.length < 1 || list.length > 12) {
            return no(5);
        }
        int widths = 0;
        boolean wide = false;
        for (byte b : list) {
            if (!in(b & 255, told.parts.size())) {
                return no(5);
            }
            int width = told.parts.get(b).wide;
            wide |= width > told.sheet;
            widths += width;
        }
        if (wide) {
            return NONE;
        }
        int most = 1;
        while (!fits(list, 0, new int[most])) {
            most++;
        }
        waste = most * told.sheet - widths;
        return most;
    }

    /** Whether all from one on find room on these sheets. */
    private boolean fits(byte[] list, int from, int[] fills) {
        if (from == list.length) {
            return true;
        }
        Set<Integer> tried = new HashSet<>();
        for (int s = 0; s < fills.length; s++) {
            int was = fills[s];
            int now = was + (was > 0 ? told.splice : 0) + told.parts.get(list[from]).wide;
            if (now <= told.sheet && tried.add(was)) {
                fills[s] = now;
                if (fits(list, from + 1, fills)) {
                    return true;
                }
                fills[s] = was;
            }
        }
        return false;
    }

    int waste() {
        return waste;
    }

    private List<Integer> bestRoute;
    private int bestHours;

    int route(int k) {
        bestRoute = List.of();
        bestHours = Integer.MAX_VALUE;
        routes(new ArrayList<>(), lastBuilt, 0);
        return k == NONE ? bestHours : in(k, bestRoute.size()) ? bestRoute.get(k) : NONE;
    }

    private void routes(List<Integer> way, int last, int hours) {
        boolean whole = true;
        for (int size = 0; size < told.sizes.size(); size++) {
            if (!way.contains(size) && told.asked(size, told.orders.size()) > 0) {
                whole = false;
                way.add(size);
                routes(way, size, hours + told.change(last, size));
                way.remove(way.size() - 1);
            }
        }
        if (whole && hours < bestHours) {
            bestHours = hours;
            bestRoute = new ArrayList<>(way);
        }
    }

    // what comes by STARVES' way, hour by hour
    private int[] starved;
    private int[] curedIn;

    private void look() {
        starved = new int[pressMould.length];
        Arrays.fill(starved, NONE);
        curedIn = new int[tyres.size()];
        boolean[] green = new boolean[tyres.size()];
        int[] cures = mouldCures.clone();
        int[] free = new int[pressMould.length];
        for (int t = 0; t < tyres.size(); t++) {
            green[t] = tyres.get(t).state == 0;
            curedIn[t] = tyres.get(t).state == 2 ? tyres.get(t).curedIn : NONE;
        }
        for (int p = 0; p < free.length; p++) {
            if (pressTyre[p] != NONE) {
                free[p] = pressFree[p];
                curedIn[pressTyre[p]] = pressFree[p];
            }
        }
        for (int h = hour; h <= 9999; h++) {
            for (int p = 0; p < free.length; p++) {
                if (free[p] <= h) {
                    int next = NONE;
                    int mould = pressMould[p];
                    for (int t = 0; t < tyres.size() && next == NONE && mould != NONE; t++) {
                        int rest = h - tyres.get(t).built;
                        if (green[t] && tyres.get(t).size == told.moulds.get(mould).size && rest >= told.restLeast
                                && rest <= told.restMost && cures[mould] < told.moulds.get(mould).lives) {
                            next = t;
                        }
                    }
                    if (next != NONE) {
                        green[next] = false;
                        cures[mould]++;
                        free[p] = h + told.sizes.get(tyres.get(next).size).cures;
                        curedIn[next] = free[p];
                    } else if (starved[p] == NONE) {
                        starved[p] = h;
                    }
                }
            }
        }
    }

    int starves(int press) {
        look();
        return in(press, starved.length) ? starved[press] : NONE;
    }

    private int curedBy(int size, int by) {
        int all = 0;
        for (int t = 0; t < tyres.size(); t++) {
            all += tyres.get(t).size == size && curedIn[t] != NONE && curedIn[t] <= by ? 1 : 0;
        }
        return all;
    }

    int kept(int order) {
        if (!in(order, told.orders.size())) {
            return NONE;
        }
        look();
        Order o = told.orders.get(order);
        return curedBy(o.size, o.by) >= told.asked(o.size, order + 1) ? 1 : 0;
    }

    int when(int order) {
        if (!in(order, told.orders.size())) {
            return NONE;
        }
        look();
        Order o = told.orders.get(order);
        for (int h = hour; h <= 9999; h++) {
            if (curedBy(o.size, h) >= told.asked(o.size, order + 1)) {
                return h;
            }
        }
        return NONE;
    }

    boolean wave(int tyre) {
        byte[] bytes = take();
        if (bytes.length != 8 || (tyre != NONE && !in(tyre, tyres.size()))) {
            no(5);
            return false;
        }
        for (int i = 0; i < 8; i++) {
            (tyre == NONE ? wheel : tyres.get(tyre).wave)[i] = bytes[i] & 255;
        }
        return true;
    }

    int spread(int tyre, int r) {
        if (!in(tyre, tyres.size()) || !in(r, 8)) {
            return NONE;
        }
        int[] sums = wheel.clone();
        for (int i = 0; i < 8; i++) {
            sums[(i + r) % 8] += tyres.get(tyre).wave[i];
        }
        Arrays.sort(sums);
        return sums[7] - sums[0];
    }

    int turn(int tyre) {
        if (!in(tyre, tyres.size())) {
            return NONE;
        }
        int best = 7;
        for (int r = 7; r >= 0; r--) {
            best = spread(tyre, r) <= spread(tyre, best) ? r : best;
        }
        return best;
    }

    int match() {
        int best = NONE;
        for (int t = tyres.size() - 1; t >= 0; t--) {
            if (tyre(t, 8) == 0 && (best == NONE || spread(t, turn(t)) <= spread(best, turn(best)))) {
                best = t;
            }
        }
        return best;
    }

    int pounds(int what) {
        int[] all = new int[7];
        for (Batch b : batches) {
            all[0] += b.pounds;
        }
        for (Lot l : lots) {
            all[1] += l.left * told.parts.get(l.part).takes;
        }
        for (Tyre t : tyres) {
            for (Map.Entry<Integer, Integer> need : told.sizes.get(t.size).needs.entrySet()) {
                all[2 + t.state] += need.getValue() * told.parts.get(need.getKey()).takes;
            }
        }
        for (int i = 0; i < 6; i++) {
            all[6] += all[i];
        }
        return in(what, 7) ? all[what] : NONE;
    }

    // ---- images

    int image() {
        List<Integer> bytes = new ArrayList<>(List.of(hour / 256, hour % 256, tyres.size()));
        for (Tyre t : tyres) {
            int bits = bits(t.batches);
            bytes.addAll(List.of(t.size, t.state, bits / 65536, bits / 256 % 256, bits % 256));
        }
        int c = 47;
        for (int it : bytes) {
            c = (3 * c + it) % 241;
        }
        bytes.add(c);
        image = bytes;
        return bytes.size();
    }

    int octet(int k) {
        return in(k, image.size()) ? image.get(k) : NONE;
    }

    int status(int what) {
        return in(what, 6) ? refusals[what] : NONE;
    }
}
