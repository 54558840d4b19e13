import java.io.IOException;
import java.lang.reflect.Method;
import java.nio.file.Files;
import java.nio.file.Path;
import java.util.ArrayList;
import java.util.List;
import java.util.regex.Matcher;
import java.util.regex.Pattern;

/** The lines of README.md, one after the other on one object: each answers as it stands there behind //. */
public final class ReadmeTest {
    private static final Pattern BLOCK = Pattern.compile("```java\n(.*?)```", Pattern.DOTALL);
    private static final Pattern STRING = Pattern.compile("\"([^\"]*)\"");
    private static final Pattern TELL = Pattern.compile("tell\\(x, ((?:\"[^\"]*\"\\s*\\+?\\s*)+)\\);\n");
    private static final Pattern CALL = Pattern.compile("x\\.(\\w+)\\(([^)]*)\\);(?: *// (-?\\w+)(?:: .*)?)?\n");

    public static void main(String[] args) throws IOException, ReflectiveOperationException {
        String page = Files.readString(Path.of("README.md"));
        String self = Files.readString(Path.of("src/test/java/ReadmeTest.java"));
        String helper = self.substring(self.lastIndexOf("\n    static void tell") + 1, self.lastIndexOf("}\n"));
        Check.due("README.md tells as this test does", page.contains(helper.replaceAll("(?m)^    ", "")), true);
        TyreWorks x = new TyreWorks();
        int lines = 0;
        Matcher block = BLOCK.matcher(page);
        while (block.find()) {
            if (!block.group(1).startsWith("static")) {
                lines += run(x, block.group(1));
            }
        }
        Check.due("lines that were run: " + lines, lines > 80, true);
        for (String name : faceNames()) {
            Check.due("README.md tells of " + name, page.matches("(?s).*\\b" + name + "\\b.*"), true);
        }
        Check.close();
    }

    /** Every line of a block is a call of x, a text that is told to it, or the one that makes it. */
    private static int run(TyreWorks x, String block) throws ReflectiveOperationException {
        int at = block.startsWith("TyreWorks x") ? block.indexOf('\n') + 1 : 0;
        int lines = 0;
        for (int left = block.length(); at < block.length() && left > 0; left--) {
            Matcher told = TELL.matcher(block).region(at, block.length());
            Matcher call = CALL.matcher(block).region(at, block.length());
            if (told.lookingAt()) {
                tell(x, joined(told.group(1)));
                at = told.end();
            } else if (call.lookingAt()) {
                String line = call.group().trim();
                String answer = answer(x, call.group(1), call.group(2));
                String due = call.group(3) == null ? answer : call.group(3).equals("NONE") ? "-1" : call.group(3);
                Check.due(line + " answers " + answer, answer.equals(due), true);
                at = call.end();
            } else {
                Check.due("a line that can be run: " + block.substring(at).split("\n")[0], false, true);
                return lines;
            }
            lines++;
        }
        return lines;
    }

    private static String joined(String strings) {
        StringBuilder all = new StringBuilder();
        Matcher string = STRING.matcher(strings);
        while (string.find()) {
            all.append(string.group(1));
        }
        return all.toString();
    }

    private static String answer(TyreWorks x, String name, String arguments) throws ReflectiveOperationException {
        String[] told = arguments.isEmpty() ? new String[0] : arguments.split(", ");
        Class<?>[] types = new Class<?>[told.length];
        Object[] with = new Object[told.length];
        for (int i = 0; i < told.length; i++) {
            types[i] = int.class;
            with[i] = told[i].equals("NONE") ? TyreWorks.NONE : Long.decode(told[i]).intValue();
        }
        return String.valueOf(TyreWorks.class.getMethod(name, types).invoke(x, with));
    }

    private static List<String> faceNames() {
        List<String> names = new ArrayList<>();
        for (Method method : TyreWorks.class.getMethods()) {
            if (method.getDeclaringClass() == TyreWorks.class) {
                names.add(method.getName());
            }
        }
        return names;
    }

    static void tell(TyreWorks x, String text) {
        x.end(0);
        for (int from = 0; from < text.length(); from += 20) {
            int[] five = new int[5];
            for (int i = 0; i < 20; i++) {
                int octet = from + i < text.length() ? text.charAt(from + i) : ' ';
                five[i / 4] = five[i / 4] << 8 | octet;
            }
            x.feed(five[0], five[1], five[2], five[3], five[4]);
        }
        x.end(text.length());
    }
}
