import java.lang.reflect.Method;
import java.lang.reflect.Modifier;
import java.util.ArrayList;
import java.util.Arrays;
import java.util.Comparator;
import java.util.List;
import java.util.Random;

/** The class against a twin of it that is told in the plainest way: the same calls, the same answers. */
public final class TwinTest {
    private static final String[] PIECES = {"mix", "ripe", "stale", "part", "of", "takes", "wide", "size", "cures", "needs",
        "change", "press", "mould", "lives", "order", "by", "sheet", "splice", "rests", "bad", "when", "or", "and", "not",
        "all", "old", "worn", "at", "kind", "lay", "min", "max", ";", "<", ">", "=", "+", "-", "*", "/", "%", "(", ")", "[",
        "]", ",", "ma", "pa", "sa", "sb", "ra", "zz", "0", "1", "99", "100", "9999", "abcdefg", "12345", "\t", " ", "\n"};

    private final Random random;
    private final TyreWorks x = new TyreWorks();
    private final Twin twin = new Twin();
    private final List<Method[]> calls = new ArrayList<>();
    private int mixes;
    private int parts;
    private int sizes;
    private int presses;
    private int moulds;
    private int orders;

    private TwinTest(int seed) throws ReflectiveOperationException {
        random = new Random(seed);
        for (Method method : TyreWorks.class.getDeclaredMethods()) {
            if (Modifier.isPublic(method.getModifiers())) {
                Method other = Twin.class.getDeclaredMethod(method.getName(), method.getParameterTypes());
                calls.add(new Method[] {method, other});
            }
        }
        calls.sort(Comparator.comparing(c -> c[0].getName()));
    }

    public static void main(String[] args) throws ReflectiveOperationException {
        int runs = args.length > 0 ? Integer.parseInt(args[0]) : 60;
        int from = args.length > 1 ? Integer.parseInt(args[1]) : 0;
        for (int seed = from; seed < from + runs; seed++) {
            new TwinTest(seed).run(seed);
            new TwinTest(seed).faults(seed);
        }
        new TwinTest(from).full();
        Check.close();
    }

    private int same(String name, int... with) throws ReflectiveOperationException {
        for (Method[] call : calls) {
            if (call[0].getName().equals(name)) {
                return same(call, with);
            }
        }
        throw new NoSuchMethodException(name);
    }

    private int same(Method[] call, int... with) throws ReflectiveOperationException {
        Object[] boxed = Arrays.stream(with).boxed().toArray();
        int[] answers = new int[2];
        for (int i = 0; i < 2; i++) {
            Object answer = call[i].invoke(i == 0 ? x : twin, boxed);
            answers[i] = answer instanceof Integer ? (Integer) answer : (Boolean) answer ? 1 : 0;
        }
        Check.due(call[0].getName() + Arrays.toString(with), answers[0], answers[1]);
        return answers[1];
    }

    private void tell(int[] bytes) throws ReflectiveOperationException {
        same("end", 0);
        for (int from = 0; from < bytes.length; from += 20) {
            int[] five = new int[5];
            for (int i = 0; i < 20 && from + i < bytes.length; i++) {
                five[i / 4] |= (bytes[from + i] & 255) << (24 - 8 * (i % 4));
            }
            same("feed", five);
        }
        same("end", bytes.length);
    }

    private int below(int n) {
        return random.nextInt(Math.max(1, n));
    }

    private int works(String text) throws ReflectiveOperationException {
        tell(text.chars().toArray());
        int answer = same("works");
        same("fault", 0);
        same("fault", 1);
        return answer;
    }

    // ---- a good text

    private String text() {
        StringBuilder text = new StringBuilder();
        mixes = 1 + below(3);
        parts = 1 + below(5);
        sizes = 1 + below(4);
        presses = below(9) == 0 ? 0 : 1 + below(4);
        moulds = below(9) == 0 ? 0 : 3 + below(6);
        orders = below(9);
        for (int i = 0; i < mixes; i++) {
            int ripe = below(5);
            text.append("mix m").append(name(i)).append(" ripe ").append(ripe).append(" stale ");
            text.append(ripe + (random.nextBoolean() ? 300 : 5 + below(60))).append(";");
        }
        for (int i = 0; i < parts; i++) {
            text.append("part p").append(name(i)).append(" of m").append(name(below(mixes))).append(" takes ");
            text.append(1 + below(4)).append(" wide ").append(1 + below(99)).append(";");
        }
        for (int i = 0; i < sizes; i++) {
            text.append("size s").append(name(i)).append(" cures ").append(1 + below(12)).append(";");
        }
        for (int i = 0; i < sizes; i++) {
            for (int p = 0; p < parts; p++) {
                if (random.nextInt(3) > 0) {
                    text.append("needs s").append(name(i)).append(" ").append(1 + below(3)).append(" p").append(name(p));
                    text.append(";");
                }
            }
        }
        for (int c = below(12); c > 0 && sizes > 1; c--) {
            int from = below(sizes);
            int to = (from + 1 + below(sizes - 1)) % sizes;
            text.append("change s").append(name(from)).append(" s").append(name(to)).append(" ").append(below(7)).append(";");
        }
        for (int i = 0; i < presses; i++) {
            text.append("press r").append(name(i)).append(";");
        }
        for (int i = 0; i < moulds; i++) {
            text.append("mould u").append(name(i)).append(" of s").append(name(below(sizes))).append(" lives ");
            text.append(1 + below(5)).append(";");
        }
        for (int i = 0; i < orders; i++) {
            text.append("order s").append(name(below(sizes))).append(" ").append(1 + below(4)).append(" by ");
            text.append(below(70)).append(";");
        }
        if (random.nextBoolean()) {
            text.append("sheet ").append(30 + below(170)).append(" splice ").append(below(10)).append(";");
        }
        if (random.nextBoolean()) {
            int least = below(5);
            text.append("rests ").append(least).append(" ").append(least + below(60)).append(";");
        }
        for (int i = below(4); i > 0; i--) {
            text.append("bad when ").append(test(3)).append(";");
        }
        return text.toString();
    }

    private static char name(int i) {
        return (char) ('a' + i);
    }

    private String test(int deep) {
        String fact = random.nextInt(4) == 0 ? "not " : "";
        fact += deep > 0 && random.nextInt(3) == 0 ? "[" + test(deep - 1) + "]"
                : random.nextInt(9) == 0 ? "all" : sum(deep) + "<>=".charAt(below(3)) + sum(deep);
        return random.nextInt(3) > 0 ? fact : fact + (random.nextBoolean() ? " or " : " and ") + test(deep);
    }

    private String sum(int deep) {
        String[] facts = {"old", "worn", "at", "kind", "lay"};
        String part = random.nextInt(3) > 0 ? facts[below(5)] : "" + below(random.nextInt(6) == 0 ? 9999 : 12);
        if (deep > 0 && random.nextInt(4) == 0) {
            part = random.nextBoolean() ? "(" + sum(deep - 1) + ")"
                    : (random.nextBoolean() ? "min(" : "max(") + sum(deep - 1) + "," + sum(deep - 1) + ")";
        }
        return random.nextInt(5) > 1 ? part : part + "+-*/%".charAt(below(5)) + sum(deep);
    }

    // ---- runs

    private void run(int seed) throws ReflectiveOperationException {
        Check.due("a good text", works(text()) >= 0, true);
        for (int n = 0; n < 10 && seed % 7 == 0; n++) {
            same("hours", 960 + below(39));
        }
        stockUp();
        for (int n = 0; n < 120; n++) {
            act();
            ask();
            if (n % 40 == 39) {
                askAll();
            }
        }
    }

    private void stockUp() throws ReflectiveOperationException {
        for (int n = 0; n < 2 * mixes; n++) {
            same("mix", n % mixes, 500 + below(499));
        }
        same("hours", 4);
        for (int n = 0; n < 4 * parts; n++) {
            same("cut", below(twin.has(8)), below(parts), 10 + below(50));
        }
        for (int n = 0; n < presses; n++) {
            same("mount", n, below(moulds));
        }
    }

    /** All rows full, then told anew: what was in them must not shine through. */
    private void full() throws ReflectiveOperationException {
        Check.due("statements", works(fullText()), 102);
        for (int n = 0; n <= 24; n++) {
            same("mix", n % 6, 999);
        }
        for (int n = 0; n <= 40; n++) {
            same("cut", n % 8 % 6 + 6 * (n / 8 % 4), n % 8, 60);
        }
        for (int press = 0; press < 4; press++) {
            same("mount", press, press + 2);
        }
        for (int n = 0; n <= 60; n++) {
            same("build", n % 6);
            same("cure", n % 4);
        }
        Check.due("batches, lots, tyres", twin.has(8) * 10000 + twin.has(9) * 100 + twin.has(10), 244060);
        askAll();
        tell(new int[] {7, 6, 5, 4, 3, 2, 1, 0, 7, 6, 5, 4});
        same("sheets");
        same("goOn", 50);
        askAll();
        works("mix m ripe 0 stale 9;part p of m takes 1 wide 1;size s cures 1;needs s 1 p;press r;mould u of s lives 1;");
        askAll();
        same("mix", 0, 9);
        same("cut", 0, 0, 9);
        askAll();
        same("build", 0);
        same("mount", 0, 0);
        askAll();
    }

    private static String fullText() {
        StringBuilder text = new StringBuilder();
        for (int i = 0; i < 6; i++) {
            text.append("mix ").append(name(14 + i)).append(" ripe 0 stale 999;");
            text.append("size ").append(name(8 + i)).append(" cures ").append(1 + i).append(";");
        }
        for (int i = 0; i < 8; i++) {
            text.append("part ").append(name(i)).append(" of ").append(name(14 + i % 6)).append(" takes 1 wide ").append(41 + i);
            text.append(";mould a").append(name(i)).append(" of ").append(name(8 + i % 6)).append(" lives 99;");
            text.append("order ").append(name(8 + i % 6)).append(" 9 by ").append(11 * i).append(";");
            text.append(i == 7 ? "bad when at=2;" : "bad when at>8;").append(i < 4 ? "press " + name(20 + i) + ";" : "");
        }
        for (int n = 0; n < 30; n++) {
            int from = n / 5;
            text.append("change ").append(name(8 + from)).append(" ").append(name(8 + (from + 1 + n % 5) % 6)).append(" ");
            text.append(n % 4).append(";");
            if (n < 24) {
                text.append("needs ").append(name(8 + n / 4)).append(" 1 ").append(name(n / 4 + n % 4 * 2 & 7)).append(";");
            }
        }
        return text.toString();
    }

    private int near(int count) {
        return random.nextInt(20) == 0 ? random.nextInt(5) - 2 + count : below(count);
    }

    private void act() throws ReflectiveOperationException {
        switch (random.nextInt(20)) {
            case 0:
                same("mix", near(mixes), random.nextInt(9) == 0 ? below(1100) - 10 : 100 + below(400));
                break;
            case 1:
            case 2:
                same("cut", near(twin.has(8)), near(parts), random.nextInt(9) == 0 ? below(70) - 2 : 1 + below(30));
                break;
            case 3:
            case 4:
            case 5:
            case 6:
            case 7:
                same("build", near(sizes));
                break;
            case 8:
                same("mount", near(presses), near(moulds));
                break;
            case 9:
            case 10:
            case 11:
            case 12:
                same("cure", near(presses));
                break;
            case 13:
                same("clean", near(moulds));
                break;
            case 14:
                same("scrap", random.nextInt(3) > 0 ? twin.has(10) : near(twin.has(10)));
                break;
            case 15:
                same("hours", random.nextInt(25) == 0 ? below(1100) - 20 : 1 + below(6));
                break;
            case 16:
                same("goOn", random.nextInt(25) == 0 ? below(230) - 10 : 1 + below(12));
                break;
            case 17:
            case 18:
                waves();
                break;
            default:
                sheets();
                break;
        }
    }

    private void waves() throws ReflectiveOperationException {
        int[] bytes = new int[random.nextInt(20) == 0 ? below(12) : 8];
        for (int i = 0; i < bytes.length; i++) {
            bytes[i] = below(random.nextBoolean() ? 256 : 4);
        }
        tell(bytes);
        same("wave", random.nextInt(4) == 0 ? TyreWorks.NONE : near(twin.has(10)));
    }

    private void sheets() throws ReflectiveOperationException {
        int[] bytes = new int[random.nextInt(10) == 0 ? below(15) : 1 + below(9)];
        for (int i = 0; i < bytes.length; i++) {
            bytes[i] = random.nextInt(60) == 0 ? below(256) : below(parts);
        }
        tell(bytes);
        same("sheets");
        same("waste");
    }

    private void ask() throws ReflectiveOperationException {
        Method[] call = calls.get(random.nextInt(calls.size()));
        if (List.of("feed", "works", "sheets", "wave", "goOn", "hours").contains(call[0].getName())) {
            return;
        }
        int[] with = new int[call[0].getParameterCount()];
        for (int i = 0; i < with.length; i++) {
            with[i] = random.nextInt(12) - 2;
        }
        same(call, with);
    }

    private void askAll() throws ReflectiveOperationException {
        List<String> acts = List.of("feed", "end", "works", "sheets", "wave", "mix", "cut", "build", "mount", "cure", "clean",
                "scrap", "hours", "goOn");
        List<String> far = List.of("tyre", "law", "turn", "spread", "octet");
        for (Method[] call : calls) {
            String name = call[0].getName();
            int n = call[0].getParameterCount();
            int many = n == 0 ? -1 : far.contains(name) ? 64 : 26;
            for (int i = -2; i < many && !acts.contains(name); i++) {
                for (int j = -2; j < (n < 2 ? -1 : name.equals("trace") ? 20 : 12); j++) {
                    for (int k = -1; k < (n < 3 ? 0 : 8); k++) {
                        same(call, Arrays.copyOf(new int[] {i, j, k}, n));
                    }
                }
            }
        }
    }

    // ---- texts with faults

    private void faults(int seed) throws ReflectiveOperationException {
        for (int n = 0; n < 12; n++) {
            StringBuilder text = new StringBuilder(text());
            for (int i = 1 + below(2); i > 0; i--) {
                String piece = PIECES[below(PIECES.length)];
                int at = below(text.length());
                switch (random.nextInt(8)) {
                    case 5:
                    case 6:
                        anotherNumber(text, at);
                        break;
                    case 7:
                        manyMore(text);
                        break;
                    case 0:
                        text.insert(at, piece);
                        break;
                    case 1:
                        text.setCharAt(at, (char) (random.nextInt(3) == 0 ? below(256) : piece.charAt(0)));
                        break;
                    case 2:
                        text.delete(at, Math.min(text.length(), at + 1 + below(9)));
                        break;
                    case 3:
                        text.insert(at, text.substring(at, Math.min(text.length(), at + 1 + below(30))));
                        break;
                    default:
                        int again = text.indexOf(";", at) + 1;
                        int end = text.indexOf(";", again) + 1;
                        text.append(again > 0 && end > again ? text.substring(again, end) : piece);
                        break;
                }
            }
            if (random.nextInt(8) == 0) {
                text.setLength(below(text.length()));
            }
            if (text.length() <= 1600) {
                works(text.toString());
            }
        }
        StringBuilder wild = new StringBuilder(random.nextBoolean() ? "bad when " : "");
        for (int i = below(40); i > 0; i--) {
            wild.append(PIECES[below(PIECES.length)]).append(random.nextInt(3) > 0 ? " " : "");
        }
        works(wild.toString());
    }

    private void anotherNumber(StringBuilder text, int at) {
        int[] numbers = {0, 1, 9, 10, 60, 61, 99, 100, 400, 401, 999, 1000, 9999};
        int from = at;
        while (from < text.length() && !Character.isDigit(text.charAt(from))) {
            from++;
        }
        int to = from;
        while (to < text.length() && Character.isDigit(text.charAt(to))) {
            to++;
        }
        text.replace(from, to, "" + numbers[below(numbers.length)]);
    }

    private void manyMore(StringBuilder text) {
        String[] each = {"mix #x ripe 0 stale 1;", "part #x of ma takes 1 wide 1;", "size #x cures 1;", "press #x;",
            "mould #x of sa lives 1;", "order sa 1 by 1;", "bad when all;", "change sa sb 1;change sb sa 1;change sa sb 9;"};
        String one = each[below(each.length)];
        int many = 3 + below(9);
        for (int i = 0; i < many && text.length() < 1500; i++) {
            text.append(one.replace('#', name(i)));
        }
    }
}
