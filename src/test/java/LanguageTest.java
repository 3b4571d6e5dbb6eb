import java.io.IOException;
import java.lang.reflect.Constructor;
import java.lang.reflect.Field;
import java.lang.reflect.Method;
import java.lang.reflect.Modifier;
import java.nio.file.Files;
import java.nio.file.Path;
import java.util.ArrayList;
import java.util.Arrays;
import java.util.List;
import java.util.TreeSet;
import java.util.regex.Matcher;
import java.util.regex.Pattern;

/** The face of the class, and those rules of ../shared/LANGUAGE.md that can be seen from its text. */
public final class LanguageTest {
    private static final Checks checks = new Checks("LanguageTest");
    private static final String[] FACE = {
        "row int,int,int", "set int,int,long", "copy int,int,int,int,int", "element int,int", "show int,int,int", "holds int",
        "says int,int", "man int,int,int,int,int", "men int,int,int", "journey int,int,int,int", "found int,int,int",
        "mark int,int,int", "manOf int,int", "where int,int", "rules int", "fault ", "rule int,int", "force int", "book int",
        "rows int", "rowOf int,int,int", "could int,int", "when int,int", "fails int,int", "strength int,int", "stands int,int",
        "sureness int,int,int", "judge int,int", "apart int", "cut int", "knots int", "alone int", "agree int", "weight int",
        "wordings int", "mouths int", "clash int,int,boolean", "doubt int", "like int,int", "between int,int", "silent int",
        "beside int,int", "act int,int,int,int", "trace int", "image ", "restore ", "status int"
    };
    private static final String[] NEVER = {
        "\\b(throw|throws|try|catch|finally|synchronized|assert|record|enum|yield|var)\\b", "->", "::", "\\bequals\\b",
        "\\bhashCode\\b", "\\btoString\\b", "Exact\\(", "\"\\s*\\+", "\\+\\s*\"", "\\bfloat\\b", "\\bdouble\\b", "\\bObject\\b",
        "\\[\\]\\[\\]\\[\\]", "\\bstatic\\s*\\{", "\\bprotected\\b", "\\bSystem\\.(?!arraycopy)", "\\bpublic static (?!final)"
    };

    public static void main(String[] args) throws IOException {
        face();
        members();
        String text = withoutComments(Files.readString(Path.of("src/main/java/HadItFrom.java")));
        for (String never : NEVER) {
            Matcher found = Pattern.compile(never).matcher(text);
            checks.due("the text has " + never, found.find() ? 1 : 0, 0);
        }
        imports(text);
        methods(text);
        checks.end();
    }

    private static void face() {
        TreeSet<String> want = new TreeSet<>(Arrays.asList(FACE));
        TreeSet<String> got = new TreeSet<>();
        for (Method m : HadItFrom.class.getDeclaredMethods()) {
            if (!Modifier.isPrivate(m.getModifiers())) {
                List<String> kinds = new ArrayList<>();
                for (Class<?> kind : m.getParameterTypes()) {
                    kinds.add(kind.getSimpleName());
                }
                got.add(m.getName() + " " + String.join(",", kinds));
                boolean isLong = m.getName().equals("element");
                checks.due("the answer of " + m.getName(), m.getReturnType() == (isLong ? long.class : int.class) ? 1 : 0, 1);
            }
        }
        checks.due("the face is " + got, got.equals(want) ? 1 : 0, 1);
        checks.due("the class is final", Modifier.isFinal(HadItFrom.class.getModifiers()) ? 1 : 0, 1);
    }

    private static void members() {
        Constructor<?>[] made = HadItFrom.class.getDeclaredConstructors();
        checks.due("constructors", made.length, 1);
        checks.due("of arguments", made[0].getParameterCount(), 0);
        int fields = 0;
        for (Field f : HadItFrom.class.getDeclaredFields()) {
            boolean isNone = f.getName().equals("NONE");
            checks.due("private is " + f.getName(), Modifier.isPrivate(f.getModifiers()) ? 1 : 0, isNone ? 0 : 1);
            fields += Modifier.isStatic(f.getModifiers()) ? 0 : 1;
            checks.due("static and not final is " + f.getName(),
                Modifier.isStatic(f.getModifiers()) && !Modifier.isFinal(f.getModifiers()) ? 1 : 0, 0);
        }
        checks.due("too many fields", fields > 20 ? 1 : 0, 0);
        checks.due("too many classes", HadItFrom.class.getDeclaredClasses().length > 12 ? 1 : 0, 0);
        for (Class<?> inner : HadItFrom.class.getDeclaredClasses()) {
            checks.due("static is " + inner.getSimpleName(), Modifier.isStatic(inner.getModifiers()) ? 1 : 0, 1);
            for (Method m : inner.getDeclaredMethods()) {
                boolean bears = Arrays.stream(FACE).anyMatch(face -> face.startsWith(m.getName() + " "));
                checks.due("the name of a public method bears " + inner.getSimpleName() + "." + m.getName(), bears ? 1 : 0, 0);
            }
        }
    }

    private static String withoutComments(String text) {
        return text.replaceAll("(?s)/\\*.*?\\*/", "").replaceAll("//[^\n]*", "");
    }

    private static void imports(String text) {
        Matcher found = Pattern.compile("import ([^;]*);").matcher(text);
        while (found.find()) {
            checks.due("an import of " + found.group(1), found.group(1).equals("java.util.Arrays") ? 1 : 0, 1);
        }
    }

    /** Methods begin with a line that ends with ") {" at the depth of members, and end with a brace at that depth. */
    private static void methods(String text) {
        String[] lines = text.split("\n");
        for (int i = 0; i < lines.length; i++) {
            Matcher begins = Pattern.compile("^( {4}| {8})(?! )(?!if|for|while|switch).*\\((.*)\\) \\{$").matcher(lines[i]);
            if (begins.matches()) {
                int end = i;
                while (end < lines.length && !lines[end].equals(begins.group(1) + "}")) {
                    end++;
                }
                checks.due("more than sixty lines has " + lines[i], end - i > 60 ? 1 : 0, 0);
                checks.due("more than seven parameters has " + lines[i], begins.group(2).split(",").length > 7 ? 1 : 0, 0);
            }
        }
    }
}
