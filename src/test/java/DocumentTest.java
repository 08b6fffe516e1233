import java.io.IOException;
import java.nio.file.Files;
import java.nio.file.Path;
import java.util.ArrayList;
import java.util.Arrays;
import java.util.List;
import java.util.regex.Matcher;
import java.util.regex.Pattern;
import java.util.stream.Stream;

/** That each sentence of DOC.md is quoted by some test (check.says), so that one that comes anew is seen to have none. */
public final class DocumentTest {
    /** What asks for no test, or for one that reads the document itself (FaceTest). */
    private static final String[] BARE = {
        "^# ValuesGo ## What it is Values that go:", "; what later calls answer is free\\.", "## The public face ```java.*?```",
        "## Terms", "==== [123]", "```(text)?", "Ahead of the calls .*? the interface says: ---- [a-z ]+\\.", "## Promises",
        "^(A new object|[a-z]+) `[^`]+`:", "## Not promised .*"
    };
    private static final String TEXT = "\"(?:[^\"\\\\]|\\\\.)*\"";
    private static final Pattern QUOTE =
        Pattern.compile("check\\.says\\((\\d+),\\s*(" + TEXT + "(?:\\s*\\+\\s*" + TEXT + ")*)\\)");

    private static final Check check = new Check();

    public static void main(String[] args) throws IOException {
        String[] promises = Check.document().split(Check.PROMISE);
        check.due("promises, with what stands ahead of them", promises.length, 30);
        List<boolean[]> told = new ArrayList<>();
        for (String promise : promises) {
            told.add(new boolean[promise.length()]);
        }
        int quotes = 0;
        for (String source : sources()) {
            Matcher quote = QUOTE.matcher(source);
            while (quote.find()) {
                int promise = Integer.parseInt(quote.group(1));
                if (promise < promises.length) {
                    mark(promises[promise], told.get(promise), Pattern.quote(joined(quote.group(2))));
                    quotes++;
                }
            }
        }
        check.due("whether there are quotes", quotes > 200 ? 1 : 0, 1);
        for (int promise = 0; promise < promises.length; promise++) {
            for (String bare : BARE) {
                mark(promises[promise], told.get(promise), bare);
            }
            allTold(promise, promises[promise], told.get(promise));
        }
        check.close();
    }

    private static List<String> sources() throws IOException {
        List<String> sources = new ArrayList<>();
        try (Stream<Path> files = Files.list(Path.of("src/test/java"))) {
            for (Path file : files.sorted().toList()) {
                sources.add(Files.readString(file));
            }
        }
        return sources;
    }

    /** The text that the texts of a sum are together. */
    private static String joined(String sum) {
        StringBuilder all = new StringBuilder();
        Matcher text = Pattern.compile(TEXT).matcher(sum);
        while (text.find()) {
            all.append(text.group(), 1, text.group().length() - 1);
        }
        return all.toString();
    }

    private static void mark(String promise, boolean[] told, String what) {
        Matcher place = Pattern.compile(what).matcher(promise);
        while (place.find()) {
            Arrays.fill(told, place.start(), place.end(), true);
        }
    }

    private static void allTold(int promise, String text, boolean[] told) {
        StringBuilder left = new StringBuilder();
        for (int i = 0; i < told.length; i++) {
            left.append(told[i] ? '|' : text.charAt(i));
        }
        for (String part : left.toString().split("\\|+")) {
            boolean words = Pattern.compile("\\w").matcher(part).find();
            check.due("words of promise " + promise + " that no test quotes: '" + part.trim() + "'", words ? 1 : 0, 0);
        }
    }
}
