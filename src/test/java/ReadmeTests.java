import java.io.IOException;
import java.nio.charset.StandardCharsets;
import java.nio.file.Files;
import java.nio.file.Path;
import java.util.ArrayList;
import java.util.List;

/** The example of README.md: each of its lines is called here in the same order, and must answer as it says there. */
public final class ReadmeTests {
    private static int wrong;
    private static List<String> lines = new ArrayList<>();
    private static int next;

    public static void main(String[] args) throws IOException {
        lines = example();
        ShadowOrder x = new ShadowOrder();
        line("ShadowOrder x = new ShadowOrder();");
        line("int bread = x.thing(3, 0, 0, 0);");
        int bread = x.thing(3, 0, 0, 0);
        line("int milk = x.thing(5, 0, 0, 0);");
        int milk = x.thing(5, 0, 0, 0);
        line("int day = x.list(8, 0);");
        int day = x.list(8, 0);
        book(x);
        line("x.open();");
        must("x.open()", x.open() >= 0);
        answers("x.place(bread, day, 0);", x.place(bread, day, 0));
        answers("x.place(milk, day, 1);", x.place(milk, day, 1));
        answers("x.shadow(milk, 1);", x.shadow(milk, 1));
        answers("x.fact(bread, 0, 4);", x.fact(bread, 0, 4));
        answers("x.worked(0);", x.worked(0));
        answers("x.undo();", x.undo());
        line("x.begin();");
        x.begin();
        answers("x.swap(bread, milk);", x.swap(bread, milk));
        answers("x.freeze(day, 1);", x.freeze(day, 1));
        answers("x.fact(milk, 0, 6);", x.fact(milk, 0, 6));
        answers("x.shadow(bread, 1);", x.shadow(bread, 1));
        answers("x.end();", x.end());
        answers("x.shadow(bread, 1);", x.shadow(bread, 1));
        must("the example has no more lines than these", next == lines.size());
        System.out.println(next + " lines of README.md, " + wrong + " are not as due");
        if (wrong != 0) {
            System.exit(1);
        }
    }

    private static void book(ShadowOrder x) {
        line("x.step(2, 0);");
        x.step(2, 0);
        line("x.step(5, 1);");
        x.step(5, 1);
        line("x.maker(0);");
        must("x.maker(0)", x.maker(0) == 0);
        line("x.step(4, 0);");
        x.step(4, 0);
        line("x.step(1, 0);");
        x.step(1, 0);
        line("x.step(14, 0);");
        x.step(14, 0);
        line("x.maker(1);");
        must("x.maker(1)", x.maker(1) == 0);
    }

    private static List<String> example() throws IOException {
        List<String> inside = new ArrayList<>();
        boolean open = false;
        for (String line : Files.readAllLines(Path.of("README.md"), StandardCharsets.UTF_8)) {
            if (line.startsWith("```")) {
                open = line.equals("```java");
            } else if (open) {
                inside.add(line);
            }
        }
        return inside;
    }

    private static void must(String what, boolean good) {
        if (!good) {
            wrong++;
            System.out.println("not so: " + what);
        }
    }

    /** The next line of the example. */
    private static String line(String statement) {
        String line = next < lines.size() ? lines.get(next) : "";
        next++;
        must("README.md goes on with " + statement + ", not with " + line, line.startsWith(statement));
        return line;
    }

    private static void answers(String statement, long got) {
        String line = line(statement);
        int behind = line.indexOf("// ");
        String told = behind < 0 ? "" : line.substring(behind + 3).split("[^0-9-]")[0];
        must(statement + " answered " + got + ", README.md says " + told, told.equals(Long.toString(got)));
    }
}
