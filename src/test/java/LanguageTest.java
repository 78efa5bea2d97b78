import java.io.IOException;
import java.lang.reflect.Field;
import java.lang.reflect.Method;
import java.lang.reflect.Modifier;
import java.nio.file.Files;
import java.nio.file.Path;
import java.util.Arrays;
import java.util.Set;
import java.util.TreeSet;
import java.util.regex.Matcher;
import java.util.regex.Pattern;

/** What of ../shared/LANGUAGE.md can be seen from the class and its text. */
public final class LanguageTest {
    private static final Path SOURCE = Path.of("src/main/java/LaneOrder.java");
    private static final Set<String> FACE = Set.of(
        "int letter(int)", "int blank()", "int fault()", "int page()", "int box(int,int)", "int as(int,int)", "int order(int)",
        "int cut(int,int)", "int lane(int,int)", "int why(int,int)", "int put(int,int)", "int take(int)", "int move(int,int,int)",
        "int change(int,int)", "int rules(int)", "int scale(int)", "int without(int)", "int calm()", "int idle()", "int free()",
        "int see(int,int,boolean)", "int forget()", "int drawn(int,int,int)", "int image()", "int restore()", "int count(int)",
        "long digest()");
    private static final Set<String> CONSTANTS = Set.of("NONE", "UNKNOWN", "OUTSIDE", "STATE", "FULL");
    private static final Set<String> LIBRARY = Set.of("Math.max", "Integer.bitCount", "System.arraycopy");

    private static final Check check = new Check();

    public static void main(String[] args) throws IOException {
        face();
        namesOfPrivateMethods();
        shapeOfClasses();
        words(withoutComments(Files.readString(SOURCE)));
        lengths(Files.readString(SOURCE).split("\n"));
        check.end("LanguageTest");
    }

    private static String signature(Method method) {
        StringBuilder all = new StringBuilder(method.getReturnType().getName()).append(' ').append(method.getName()).append('(');
        for (Class<?> type : method.getParameterTypes()) {
            all.append(all.charAt(all.length() - 1) == '(' ? "" : ",").append(type.getName());
        }
        return all.append(')').toString();
    }

    private static void face() {
        check.part("rule 1");
        check.same("public and final", LaneOrder.class.getModifiers() & (Modifier.PUBLIC | Modifier.FINAL), Modifier.PUBLIC | Modifier.FINAL);
        Set<String> open = new TreeSet<>();
        for (Method method : LaneOrder.class.getDeclaredMethods()) {
            if (!Modifier.isPrivate(method.getModifiers())) {
                check.same(method + " is public and no more", method.getModifiers(), Modifier.PUBLIC);
                open.add(signature(method));
            }
        }
        check.same("the methods", open, new TreeSet<>(FACE));
        Set<String> fields = new TreeSet<>();
        for (Field field : LaneOrder.class.getDeclaredFields()) {
            if (!Modifier.isPrivate(field.getModifiers())) {
                check.same(field + " is a constant", field.getModifiers(), Modifier.PUBLIC | Modifier.STATIC | Modifier.FINAL);
                fields.add(field.getName());
            }
        }
        check.same("the constants", fields, new TreeSet<>(CONSTANTS));
        check.same("the constructors", Arrays.toString(LaneOrder.class.getDeclaredConstructors()), "[public LaneOrder()]");
    }

    private static void namesOfPrivateMethods() {
        check.part("rule 1");
        Set<String> open = new TreeSet<>();
        FACE.forEach(s -> open.add(s.substring(s.indexOf(' ') + 1, s.indexOf('('))));
        for (Method method : LaneOrder.class.getDeclaredMethods()) {
            if (Modifier.isPrivate(method.getModifiers())) {
                check.same("a public method is named " + method.getName(), open.contains(method.getName()), false);
            }
        }
        for (Class<?> inside : LaneOrder.class.getDeclaredClasses()) {
            for (Method method : inside.getDeclaredMethods()) {
                check.same("a public method is named " + method.getName(), open.contains(method.getName()), false);
            }
        }
    }

    private static void shapeOfClasses() {
        check.part("rules 2, 5, 11");
        Class<?>[] inside = LaneOrder.class.getDeclaredClasses();
        check.same("at most twelve classes", inside.length < 12, true);
        for (Class<?> c : inside) {
            check.same(c + " is static", Modifier.isStatic(c.getModifiers()), true);
            look(c);
        }
        look(LaneOrder.class);
    }

    private static void look(Class<?> c) {
        int fields = 0;
        for (Field field : c.getDeclaredFields()) {
            if (Modifier.isStatic(field.getModifiers())) {
                check.same(field + " is final", Modifier.isFinal(field.getModifiers()), true);
            } else {
                fields++;
            }
        }
        check.same(c + " has at most twenty fields", fields <= 20, true);
        for (Method method : c.getDeclaredMethods()) {
            check.same(method + " has at most seven parameters", method.getParameterCount() <= 7, true);
        }
    }

    private static String withoutComments(String source) {
        return source.replaceAll("(?s)/\\*.*?\\*/", "").replaceAll("//[^\n]*", "");
    }

    private static void words(String code) {
        check.part("rules 4, 6");
        String[] ruledOut = {"throw", "throws", "try", "catch", "synchronized", "assert", "import", "package", "protected", "volatile",
            "double", "float", "enum", "->", "::", "Exception", "Error"};
        for (String word : ruledOut) {
            String quoted = Character.isLetter(word.charAt(0)) ? "\\b" + word + "\\b" : Pattern.quote(word);
            check.same("'" + word + "' stands there", Pattern.compile(quoted).matcher(code).find(), false);
        }
        Matcher calls = Pattern.compile("\\b(Math|Integer|Long|System|Arrays|String|List|ArrayList|Character|Boolean)\\.\\w+").matcher(code);
        while (calls.find()) {
            check.same(calls.group() + " is listed", LIBRARY.contains(calls.group()), true);
        }
    }

    private static void lengths(String[] lines) {
        check.part("rule 11");
        for (String indent : new String[] {"    ", "        "}) {
            int begin = -1;
            for (int i = 0; i < lines.length; i++) {
                if (lines[i].matches(indent + "\\w.*\\) \\{")) {
                    begin = i;
                } else if (begin >= 0 && lines[i].equals(indent + "}")) {
                    check.same("short enough:" + lines[begin], i - begin + 1 <= 60, true);
                    begin = -1;
                }
            }
        }
    }
}
