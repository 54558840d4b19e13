import java.lang.reflect.InvocationTargetException;
import java.lang.reflect.Method;
import java.lang.reflect.Modifier;
import java.util.Arrays;
import java.util.Comparator;
import java.util.Random;

/** No call throws, whatever its arguments, in whatever state; and the same calls give the same answers. */
public final class WildTest {
    private static final String[] PIECES = {"mix ", "ripe ", "stale ", "part ", "of ", "takes ", "wide ", "size ", "cures ",
        "needs ", "change ", "press ", "mould ", "lives ", "order ", "by ", "sheet ", "splice ", "rests ", "bad ", "when ",
        "or ", "and ", "not ", "all ", "old ", "worn ", "at ", "kind ", "lay ", "min ", "max ", ";", "<", ">", "=", "+", "-",
        "*", "/", "%", "(", ")", "[", "]", ",", "a ", "b ", "c ", "0 ", "1 ", "99 ", "9999 ", "abcdefg", "12345", "\t"};
    private static final String GOOD = "mix m ripe 0 stale 99;mix n ripe 2 stale 9;part p of m takes 2 wide 40;"
            + "part q of n takes 1 wide 99;size a cures 3;size b cures 9;needs a 2 p;needs b 1 p;needs b 2 q;change a b 4;"
            + "press x;press y;mould ma of a lives 3;mould mb of b lives 2;order a 9 by 40;order b 3 by 60;"
            + "sheet 120 splice 3;rests 1 30;bad when worn*2>old-lay%3 or at=kind;";

    public static void main(String[] args) throws IllegalAccessException {
        Method[] calls = TyreWorks.class.getDeclaredMethods();
        calls = Arrays.stream(calls).filter(m -> Modifier.isPublic(m.getModifiers())).toArray(Method[]::new);
        Arrays.sort(calls, Comparator.comparing(Method::getName));
        Check.due("public methods", calls.length, 44 - 1);
        long answers = 0;
        for (int seed = 0; seed < 400; seed++) {
            long first = run(calls, seed);
            if (seed % 10 == 0) {
                Check.due("the same calls of run " + seed, run(calls, seed), first);
            }
            answers += first;
        }
        System.out.println("sum of answers " + answers);
        Check.close();
    }

    private static long run(Method[] calls, int seed) throws IllegalAccessException {
        Random random = new Random(seed);
        TyreWorks x = new TyreWorks();
        long answers = 0;
        for (int n = 0; n < 512; n++) {
            if (n % 100 == 0) {
                answers = 31 * answers + Check.works(x, seed % 4 == 0 || n == 100 ? wildText(random) : GOOD);
                answers = 31 * answers + x.fault(0) * 2000 + x.fault(1);
            }
            Method call = calls[random.nextInt(calls.length)];
            if (call.getName().equals("works") && random.nextInt(20) != 0) {
                continue;
            }
            Object[] with = new Object[call.getParameterCount()];
            for (int i = 0; i < with.length; i++) {
                with[i] = argument(random);
            }
            try {
                Object answer = call.invoke(x, with);
                answers = 31 * answers + (answer instanceof Integer ? (Integer) answer : (Boolean) answer ? 1 : 0);
            } catch (InvocationTargetException thrown) {
                Check.due(call.getName() + Arrays.toString(with) + " threw " + thrown.getCause(), 1, 0);
            }
        }
        return answers;
    }

    private static int argument(Random random) {
        switch (random.nextInt(12)) {
            case 0:
                return random.nextInt();
            case 1:
                return random.nextBoolean() ? Integer.MIN_VALUE : Integer.MAX_VALUE;
            case 2:
                return random.nextInt(200) - 20;
            case 3:
                return TyreWorks.NONE;
            default:
                return random.nextInt(5);
        }
    }

    private static String wildText(Random random) {
        StringBuilder text = new StringBuilder(random.nextBoolean() ? GOOD : "");
        if (random.nextBoolean()) {
            text.append("bad when ");
        }
        int pieces = random.nextInt(60);
        for (int i = 0; i < pieces; i++) {
            text.append(PIECES[random.nextInt(PIECES.length)]);
        }
        if (random.nextInt(3) == 0 && text.length() > 0) {
            text.setCharAt(random.nextInt(text.length()), (char) random.nextInt(256));
        }
        return text.toString();
    }
}
