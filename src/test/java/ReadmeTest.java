import java.io.IOException;
import java.nio.file.Files;
import java.nio.file.Path;
import java.util.ArrayList;
import java.util.List;
import java.util.regex.Matcher;
import java.util.regex.Pattern;

/** The examples of README.md: each line that shows an answer is asked here, in the page's order. */
public final class ReadmeTest {
    private static final Check check = new Check();
    private static final List<String> calls = new ArrayList<>();
    private static final List<Long> answers = new ArrayList<>();
    private static int next;

    public static void main(String[] args) throws IOException {
        Matcher line = Pattern.compile("(?m)^ +(x\\.\\w+\\(.*?\\)); +// (-?\\d+)\\b").matcher(Files.readString(Path.of("README.md")));
        while (line.find()) {
            calls.add(line.group(1));
            answers.add(Long.parseLong(line.group(2)));
        }
        ValuesGo x = new ValuesGo();
        rules(x);
        decisions(x);
        searches(x);
        back(x);
        sheets(x);
        check.due("examples asked", next, calls.size());
        check.close();
    }

    /** That the page's next example is this call, and shows this answer. */
    private static void shows(String call, long got) {
        String shown = next < calls.size() ? calls.get(next) : "nothing";
        check.due("README.md shows " + shown + " where " + call + " is asked", shown.equals(call) ? 1 : 0, 1);
        check.due(call, got, next < answers.size() ? answers.get(next) : 0);
        next++;
    }

    private static void rules(ValuesGo x) {
        shows("x.rule()", Check.rule(x, "a + b = 9"));
        shows("x.rule()", Check.rule(x, "c : a < b"));
        shows("x.rule()", Check.rule(x, "a + b"));
        shows("x.run()", x.run());
        shows("x.domain(2)", x.domain(2));
    }

    private static void decisions(ValuesGo x) {
        shows("x.tell(v, 1)", x.tell(3, 1));
        for (int v = 4; v < 8; v++) {
            check.due("x.tell(" + v + ", 1)", x.tell(v, 1), 9);
        }
        shows("x.level()", x.level());
        shows("x.tell(2, 2)", x.tell(2, 2));
        shows("x.step()", x.step());
        shows("x.step()", x.step());
        shows("x.domain(0)", x.domain(0));
        shows("x.trail(0, 1009)", x.trail(0, 1009));
        shows("x.trail(54, 1)", x.trail(54, 1));
        shows("x.why(0, 9)", x.why(0, 9));
    }

    private static void searches(ValuesGo x) {
        shows("x.search(0, 0, 0, 0)", x.search(0, 0, 0, 0));
        shows("x.search(0, 0, 0, 1)", x.search(0, 0, 0, 1));
        shows("x.solutions()", x.solutions());
        shows("x.reach(0, 1)", x.reach(0, 1));
        shows("x.film(0, 0, 0)", x.film(0, 0, 0));
        shows("x.item(0, 1)", x.item(0, 1));
        shows("x.tells(0, 0)", x.tells(0, 0));
        shows("x.tells(0, 1)", x.tells(0, 1));
    }

    private static void back(ValuesGo x) {
        shows("x.image()", x.image());
        shows("x.undo()", x.undo());
        shows("x.undo()", x.undo());
        shows("x.back()", x.back());
    }

    private static void sheets(ValuesGo x) {
        shows("x.sheet(1, 2, 4)", x.sheet(1, 2, 4));
        shows("x.put(1, 3, 200)", x.put(1, 3, 200));
        shows("x.item(1, 3)", x.item(1, 3));
        shows("x.copy(1, 3, 1, 0, 1)", x.copy(1, 3, 1, 0, 1));
        shows("x.put(1, 4, 0)", x.put(1, 4, 0));
    }
}
