import java.io.IOException;
import java.lang.reflect.Constructor;
import java.lang.reflect.Field;
import java.lang.reflect.Method;
import java.lang.reflect.Modifier;
import java.nio.file.Files;
import java.nio.file.Path;
import java.util.Set;
import java.util.TreeSet;
import java.util.regex.Matcher;
import java.util.regex.Pattern;

/** The face of the document, and the rules of LANGUAGE.md that can be seen from the source. */
public final class RulesTest {
    private static final String FACE = "batch(int,int):int bad(int):int build(int):int change(int,int):int clean(int):int "
            + "could(int):int count(int,int):int cure(int):int cut(int,int,int):int end(int):boolean fault(int):int "
            + "feed(int,int,int,int,int):int goOn(int):int has(int):int hours(int):int image():int kept(int):int "
            + "law(int):int letter(int,int,int):int lot(int,int):int match():int mix(int,int):int "
            + "mould(int,int):int mount(int,int):boolean needs(int,int):int octet(int):int others(int):int "
            + "pounds(int):int press(int,int):int route(int):int scrap(int):boolean sheets():int spread(int,int):int "
            + "starves(int):int status(int):int stock(int):int trace(int,int):int turn(int):int tyre(int,int):int "
            + "waste():int wave(int):boolean when(int):int works():int";

    public static void main(String[] args) throws IOException {
        face();
        members();
        source(Files.readString(Path.of("src/main/java/TyreWorks.java")));
        Check.close();
    }

    private static void face() {
        Set<String> found = new TreeSet<>();
        for (Method method : TyreWorks.class.getDeclaredMethods()) {
            if (!Modifier.isPrivate(method.getModifiers())) {
                StringBuilder line = new StringBuilder(method.getName()).append("(");
                for (Class<?> type : method.getParameterTypes()) {
                    line.append(line.charAt(line.length() - 1) == '(' ? "" : ",").append(type.getName());
                }
                found.add(line.append("):").append(method.getReturnType().getName()).toString());
            }
        }
        Set<String> due = new TreeSet<>(Set.of(FACE.split(" ")));
        Check.due("the face is " + found, found.equals(due), true);
        Check.due("final", Modifier.isFinal(TyreWorks.class.getModifiers()), true);
        Check.due("NONE", TyreWorks.NONE, -1);
        Constructor<?>[] constructors = TyreWorks.class.getDeclaredConstructors();
        Check.due("constructors", constructors.length, 1);
        Check.due("public constructor", Modifier.isPublic(constructors[0].getModifiers()), true);
    }

    private static void members() {
        Set<String> open = new TreeSet<>();
        for (Method method : TyreWorks.class.getDeclaredMethods()) {
            if (Modifier.isPublic(method.getModifiers())) {
                open.add(method.getName());
            }
        }
        for (Method method : TyreWorks.class.getDeclaredMethods()) {
            boolean closed = Modifier.isPrivate(method.getModifiers());
            Check.due("a public name: " + method, closed && open.contains(method.getName()), false);
        }
        for (Field field : TyreWorks.class.getDeclaredFields()) {
            boolean named = field.getName().equals("NONE");
            Check.due("private " + field.getName(), Modifier.isPrivate(field.getModifiers()), !named);
        }
        Class<?>[] inside = TyreWorks.class.getDeclaredClasses();
        Check.due("at most twelve classes", inside.length + 1 <= 12, true);
        for (Class<?> one : inside) {
            Check.due("static " + one.getName(), Modifier.isStatic(one.getModifiers()), true);
            int fields = 0;
            for (Field field : one.getDeclaredFields()) {
                boolean fixed = Modifier.isStatic(field.getModifiers());
                Check.due("static and final " + field, !fixed || Modifier.isFinal(field.getModifiers()), true);
                fields += fixed ? 0 : 1;
            }
            Check.due("at most twenty fields in " + one.getName(), fields <= 20, true);
            for (Method method : one.getDeclaredMethods()) {
                Check.due("a public name inside: " + method, open.contains(method.getName()), false);
                Check.due("seven parameters: " + method, method.getParameterCount() <= 7, true);
            }
        }
    }

    private static void source(String text) {
        Check.due("no tabs, ASCII alone", text.chars().allMatch(c -> c == 10 || (c >= 32 && c < 127)), true);
        String code = text.replaceAll("(?s)/\\*.*?\\*/", "").replaceAll("//[^\n]*", "").replaceAll("\"[^\"\n]*\"", "\"\"");
        String[] never = {"\\bthrow\\b", "\\bthrows\\b", "\\btry\\b", "\\bcatch\\b", "\\bsynchronized\\b", "\\bassert\\b",
            "->", "::", "Exact\\b", "\\bprotected\\b", "\\bvolatile\\b", "\\bnative\\b", "\\bhashCode\\b", "\\btoString\\b",
            "\\bdouble\\b", "\\bfloat\\b", "System\\.(?!arraycopy)", "\"\"\\s*\\+", "\\+\\s*\"\"", "static\\s*\\{",
            "\\bpackage\\b", "@"};
        for (String pattern : never) {
            Check.due("never " + pattern, Pattern.compile(pattern).matcher(code).find(), false);
        }
        Matcher imports = Pattern.compile("import ([^;]*);").matcher(code);
        while (imports.find()) {
            Check.due("import " + imports.group(1), imports.group(1).equals("java.util.Arrays"), true);
        }
        int longest = 0;
        int open = 0;
        for (String line : code.split("\n")) {
            boolean starts = line.matches("(    |        )(public |private |static )*[\\w\\[\\]]+ ?\\w*\\(.*\\{");
            open = starts ? 1 : open + 1;
            if (line.matches("(    |        )\\}")) {
                longest = Math.max(longest, open);
                open = Integer.MIN_VALUE / 2;
            }
        }
        Check.due("methods of " + longest + " lines at most", longest > 10 && longest <= 60, true);
    }
}
