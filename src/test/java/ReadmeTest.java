import java.io.IOException;
import java.lang.reflect.Method;
import java.lang.reflect.Modifier;
import java.nio.file.Files;
import java.nio.file.Path;
import java.util.regex.Matcher;
import java.util.regex.Pattern;

/** What README.md says of the class: its example, each call of the face, what is refused and how. */
public final class ReadmeTest {
    private static final Checks checks = new Checks("ReadmeTest");
    private static final HadItFrom x = new HadItFrom();
    private static String readme = "";

    public static void main(String[] args) throws IOException {
        readme = Files.readString(Path.of("README.md"));
        example();
        calls();
        refusals();
        texts();
        checks.end();
    }

    /** The answer, and that the example has the call with this answer behind it. */
    private static void due(String call, long got, long want) {
        checks.due(call, got, want);
        String line = Pattern.quote("x." + call + ";") + " +// " + want + ":";
        checks.due("the example has " + call + " with " + want, Pattern.compile(line).matcher(readme).find() ? 1 : 0, 1);
    }

    private static void example() {
        String letters = "1 told 0";
        due("man(0, 60, 0, 1, 0)", x.man(0, 60, 0, 1, 0), 0);
        due("man(20, 80, 0, 1, 0)", x.man(20, 80, 0, 1, 0), 1);
        checks.due("the example's letters", readme.contains("letters = \"" + letters + "\"") ? 1 : 0, 1);
        due("row(0, 0, 8)", x.row(0, 0, 8), 1);
        for (int i = 0; i < letters.length(); i++) {
            checks.due("set", x.set(0, i, letters.charAt(i)), 1);
        }
        due("book(0)", x.book(0), 0);
        due("when(1, 0)", x.when(1, 0), 30);
        due("strength(0, 0)", x.strength(0, 0), 9);
        due("stands(0, 0)", x.stands(0, 0), 1);
        due("book(1)", x.book(1), -3);
        due("status(13)", x.status(13), 1);
        due("force(5)", x.force(5), -11);
    }

    /** Each call has one row of the table, with as many arguments as it takes. */
    private static void calls() {
        int face = 0;
        for (Method m : HadItFrom.class.getDeclaredMethods()) {
            if (Modifier.isPublic(m.getModifiers())) {
                face++;
                Matcher row = Pattern.compile("\\| `" + m.getName() + "\\(([^)]*)\\)` \\|").matcher(readme);
                checks.due("the table has " + m.getName(), row.find() ? 1 : 0, 1);
                int arguments = row.group(1).isEmpty() ? 0 : row.group(1).split(", ").length;
                checks.due("the arguments of " + m.getName(), arguments, m.getParameterCount());
            }
        }
        Matcher row = Pattern.compile("(?m)^\\| `").matcher(readme);
        checks.due("the table's rows", row.results().count(), face);
    }

    private static void refusals() {
        for (int n = 1; n <= 7; n++) {
            checks.due("refusal -" + n, readme.contains("\n| -" + n + " | ") ? 1 : 0, 1);
        }
        checks.due("the 512 calls", readme.contains("512 calls") ? 1 : 0, 1);
        int before = refused();
        checks.due("never refused",
            x.element(-1, -1) + x.holds(-1) + x.where(-1, -1) + x.when(-1, -1) + x.act(-1, -1, -1, 0) + x.trace(-1) + x.status(-1), -5);
        checks.due("never refused, counted", refused(), before);
        checks.due("refused with -11", x.fails(9, 9) + x.judge(9, 9) + x.like(9, 9), -33);
        x.show(2, 0, 0);
        checks.due("refused with -12", x.judge(0, 2), -12);
        checks.due("refused with -13", x.judge(0, 3), -13);
    }

    private static int refused() {
        int all = 0;
        for (int what = 11; what <= 17; what++) {
            all += x.status(what);
        }
        return all;
    }

    /** The book and the rules that README.md shows can be read. */
    private static void texts() {
        String book = "gap 5 told 3 from 0 word 2;1 told 0";
        String rules = "age 12;near 1;bar 4";
        checks.due("it shows the book", readme.contains("`" + book + "`") ? 1 : 0, 1);
        checks.due("it shows the rules", readme.contains("`" + rules + "`") ? 1 : 0, 1);
        checks.due("the book", Desk.book(Desk.withMen(6), book), 0);
        checks.due("the rules", Desk.rules(new HadItFrom(), rules), 0);
    }
}
