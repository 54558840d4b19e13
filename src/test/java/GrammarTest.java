import java.util.ArrayList;
import java.util.HashMap;
import java.util.LinkedHashSet;
import java.util.List;
import java.util.Map;
import java.util.Random;
import java.util.Set;

/**
 * Fault 1 by the document's grammar alone: an Earley recogniser, which knows nothing of how a text is read elsewhere, tells
 * the first word or sign with which no WORKS go on. Whatever the class answers must go together with that.
 */
public final class GrammarTest {
    private static final String RULES = "works: | works statement ;\n"
            + "statement: mix NAME ripe N stale N | part NAME of NAME takes N wide N | size NAME cures N | needs NAME N NAME"
            + " | change NAME NAME N | press NAME | mould NAME of NAME lives N | order NAME N by N | sheet N splice N"
            + " | rests N N | bad when test\n"
            + "test: both | test or both\n"
            + "both: fact | both and fact\n"
            + "fact: not fact | [ test ] | all | sum < sum | sum > sum | sum = sum\n"
            + "sum: product | sum + product | sum - product\n"
            + "product: piece | product * piece | product / piece | product % piece\n"
            + "piece: N | old | worn | at | kind | lay | ( sum ) | min ( sum , sum ) | max ( sum , sum )";
    private static final String TOLD = "mix ma ripe 0 stale 9 ; part pa of ma takes 1 wide 1 ; part pb of ma takes 1 wide 1 ;"
            + " size sa cures 1 ; size sb cures 1 ; ";
    private static final String[] STATEMENTS = {"mix mb ripe 2 stale 9", "part pc of ma takes 2 wide 3", "size sc cures 9",
        "needs sa 2 pa", "needs sb 1 pb", "change sa sb 4", "change sb sa 0", "press ra", "mould ua of sb lives 7",
        "order sb 9 by 99", "sheet 99 splice 1", "rests 1 2"};
    private static final String[] PIECES = {"mix", "ripe", "stale", "part", "of", "takes", "wide", "size", "cures", "needs",
        "change", "press", "mould", "lives", "order", "by", "sheet", "splice", "rests", "bad", "when", "or", "and", "not",
        "all", "old", "worn", "at", "kind", "lay", "min", "max", ";", "<", ">", "=", "+", "-", "*", "/", "%", "(", ")", "[",
        "]", ",", "na", "7", "!"};

    /** A rule of which the first pieces have been found, from a place of the text on. */
    private record Found(String name, List<String> pieces, int done, int from) {
        boolean whole() {
            return done == pieces.size();
        }

        String next() {
            return pieces.get(done);
        }

        Found more() {
            return new Found(name, pieces, done + 1, from);
        }
    }

    private static final Map<String, List<List<String>>> GRAMMAR = new HashMap<>();

    public static void main(String[] args) {
        readRules();
        Random random = new Random(5);
        int whole = 0;
        for (int n = 0; n < 2000; n++) {
            List<String> words = new ArrayList<>(List.of((TOLD + statement(random) + " ; " + statement(random) + " ;").split(" ")));
            for (int changes = random.nextInt(4); changes > 0; changes--) {
                change(random, words);
            }
            whole += compare(words) ? 1 : 0;
        }
        Check.due("texts without a fault: " + whole, whole > 200 && whole < 1800, true);
        Check.close();
    }

    private static void readRules() {
        for (String line : RULES.split("\n")) {
            int colon = line.indexOf(':');
            List<List<String>> ways = new ArrayList<>();
            for (String way : line.substring(colon + 1).split("\\|")) {
                ways.add(way.isBlank() ? List.of() : List.of(way.trim().split(" +")));
            }
            GRAMMAR.put(line.substring(0, colon), ways);
        }
    }

    // ---- texts

    private static String statement(Random random) {
        if (random.nextInt(3) == 0) {
            return STATEMENTS[random.nextInt(STATEMENTS.length)];
        }
        String law = "bad when" + some(random, "test", 0);
        return law.length() < 300 ? law : statement(random);
    }

    /** What the grammar has for a name, by chance; deep inside it takes the shortest way. */
    private static String some(Random random, String name, int deep) {
        List<List<String>> ways = GRAMMAR.get(name);
        if (ways == null) {
            return " " + (name.equals("N") ? "" + random.nextInt(12) : name);
        }
        boolean piece = name.equals("piece");
        int chosen = deep > 12 ? (name.equals("fact") ? 2 : 0) : random.nextInt(piece && random.nextInt(3) > 0 ? 6 : ways.size());
        StringBuilder all = new StringBuilder();
        for (String part : ways.get(chosen)) {
            all.append(some(random, part, deep + 1));
        }
        return all.toString();
    }

    private static void change(Random random, List<String> words) {
        if (words.isEmpty()) {
            return;
        }
        int told = random.nextInt(4) == 0 ? 0 : Math.min(words.size() - 1, TOLD.split(" ").length);
        int at = told + random.nextInt(words.size() - told);
        switch (random.nextInt(5)) {
            case 0:
                words.add(at, PIECES[random.nextInt(PIECES.length)]);
                break;
            case 1:
                words.set(at, PIECES[random.nextInt(PIECES.length)]);
                break;
            case 2:
                words.remove(at);
                break;
            case 3:
                words.subList(at, words.size()).clear();
                break;
            default:
                words.add(at, words.get(random.nextInt(words.size())));
                break;
        }
    }

    // ---- what is due

    /** Whether the text was without a fault. */
    private static boolean compare(List<String> words) {
        String text = String.join(" ", words);
        int stops = firstThatStops(words);
        int due = placeOf(words, stops);
        TyreWorks x = new TyreWorks();
        int statements = Check.works(x, text);
        int fault = x.fault(0);
        if (fault == 0) {
            Check.due("goes on to the end: " + text, stops, words.size() + 1);
            Check.due("statements of " + text, statements, words.stream().filter(";"::equals).count());
        } else if (fault == 1) {
            Check.due("place of fault 1 in " + text, x.fault(1), due);
        } else {
            Check.due("fault " + fault + " ahead of fault 1 in " + text, x.fault(1) < due || stops > words.size(), true);
        }
        return fault == 0;
    }

    private static int placeOf(List<String> words, int which) {
        if (which >= words.size()) {
            return String.join(" ", words).length();
        }
        int place = 0;
        for (String word : words.subList(0, which)) {
            place += word.length() + 1;
        }
        return place;
    }

    /** The first word with which no WORKS go on: the text's length in words if it ends too soon, one more without any. */
    private static int firstThatStops(List<String> words) {
        List<Set<Found>> sets = new ArrayList<>();
        Set<Found> first = new LinkedHashSet<>();
        for (List<String> way : GRAMMAR.get("works")) {
            first.add(new Found("works", way, 0, 0));
        }
        sets.add(first);
        for (int at = 0; at <= words.size(); at++) {
            close(sets, at);
            Set<Found> next = new LinkedHashSet<>();
            for (Found one : sets.get(at)) {
                if (at < words.size() && !one.whole() && one.next().equals(kind(words.get(at)))) {
                    next.add(one.more());
                }
            }
            if (at < words.size() && next.isEmpty()) {
                return at;
            }
            sets.add(next);
        }
        for (Found one : sets.get(words.size())) {
            if (one.whole() && one.name.equals("works") && one.from == 0) {
                return words.size() + 1;
            }
        }
        return words.size();
    }

    /** Adds what each begun rule asks for, and goes on with what asked for each whole one, until nothing is new. */
    private static void close(List<Set<Found>> sets, int at) {
        Set<Found> set = sets.get(at);
        List<Found> open = new ArrayList<>(set);
        for (int i = 0; i < open.size(); i++) {
            Found one = open.get(i);
            List<Found> fresh = new ArrayList<>();
            if (!one.whole()) {
                for (List<String> way : GRAMMAR.getOrDefault(one.next(), List.of())) {
                    fresh.add(new Found(one.next(), way, 0, at));
                }
            }
            for (Found asks : one.whole() ? new ArrayList<>(sets.get(one.from)) : List.<Found>of()) {
                if (!asks.whole() && asks.next().equals(one.name)) {
                    fresh.add(asks.more());
                }
            }
            // a rule of nothing is whole at once, maybe ahead of who asks for it here
            if (!one.whole() && set.contains(new Found(one.next(), List.of(), 0, at))) {
                fresh.add(one.more());
            }
            for (Found more : fresh) {
                if (set.add(more)) {
                    open.add(more);
                }
            }
        }
    }

    private static String kind(String word) {
        char first = word.charAt(0);
        if (first >= '0' && first <= '9') {
            return "N";
        }
        boolean own = RULES.matches("(?s).*[ \n]" + java.util.regex.Pattern.quote(word) + "([ \n].*|)");
        return first >= 'a' && first <= 'z' && !own ? "NAME" : word;
    }
}
