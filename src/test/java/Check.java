import java.io.IOException;
import java.nio.file.Files;
import java.nio.file.Path;
import java.util.ArrayList;
import java.util.List;
import java.util.function.Supplier;
import java.util.function.ToLongFunction;

/** What the tests share: a count of wrong answers, short ways to feed texts, what DOC.md says, what an object shows. */
final class Check {
    /** What stands ahead of each promise in the document. */
    static final String PROMISE = "## Promise \\d+: ";

    private int wrong;
    private int right;
    private String[] promises;
    private String sentence = "";

    void due(String call, long got, long want) {
        if (got == want) {
            right++;
        } else {
            wrong++;
            System.out.println(call + " answered " + got + ", due is " + want + sentence);
        }
    }

    /**
     * That DOC.md says this, word for word, of a promise (0: ahead of the promises): so that a test that quotes it is
     * known to be out of date when the document changes.
     */
    void says(int promise, String words) {
        if (promises == null) {
            promises = document().split(PROMISE);
        }
        sentence = "  -- " + words;
        due("where promise " + promise + " is in DOC.md", promise < promises.length ? 1 : 0, 1);
        due("whether it says so of promise " + promise, promises[promise].contains(words) ? 1 : 0, 1);
    }

    /** DOC.md with each blank and end of line as one blank; empty if it can't be read. */
    static String document() {
        try {
            return Files.readString(Path.of("../shared/DOC.md")).replaceAll("\\s+", " ");
        } catch (IOException e) {
            return "";
        }
    }

    /** A new object with rules. */
    ValuesGo with(String... texts) {
        ValuesGo x = new ValuesGo();
        for (int i = 0; i < texts.length; i++) {
            due("rule() of '" + texts[i] + "'", rule(x, texts[i]), i);
        }
        return x;
    }

    /** A new object with rules, of which the first variables are told sets, the others are told to be 0. */
    ValuesGo told(int[] sets, String... texts) {
        ValuesGo x = with(texts);
        for (int v = 0; v < 8; v++) {
            x.tell(v, v < sets.length ? sets[v] : 1);
        }
        return x;
    }

    /**
     * While d is 1, e and f are to be like and unlike, which only a try of e shows. d is 1 for 10 * a + b below a
     * number: each of these costs a try of b and one of e, but b's 9 comes without one; each a costs one.
     */
    ValuesGo hard(int below) {
        return hard(below, 1);
    }

    /** As hard(below), with a set for g: with two values it costs one try more. */
    ValuesGo hard(int below, int lastSet) {
        int[] sets = {1023, 1023, 1, 1023, 3, 3, lastSet};
        return told(sets, "d:a*10+b<" + below, "e!f", "(e-f)*(e-f)*d=0");
    }

    /** That a search answers this: the solution, tries, failures, learned ones. */
    void searches(ValuesGo x, int choose, int pick, int learn, int... want) {
        for (int what = 0; what < 4; what++) {
            due("search(" + choose + ", " + pick + ", " + learn + ", " + what + ")", x.search(choose, pick, learn, what), want[what]);
        }
    }

    /** Feeds a text and makes it a rule: what rule() answered. */
    static int rule(ValuesGo x, String text) {
        feed(x, text);
        return x.rule();
    }

    static void feed(ValuesGo x, String text) {
        for (int i = 0; i < text.length(); i++) {
            x.feed(text.charAt(i));
        }
    }

    /** Makes a sheet of a sort with these numbers. */
    static void show(ValuesGo x, int sheet, int sort, int... items) {
        x.sheet(sheet, sort, items.length);
        for (int i = 0; i < items.length; i++) {
            x.put(sheet, i, items[i]);
        }
    }

    /**
     * That a call is refused, or tells that there is nothing to do, and changes nothing: behind it all that can be
     * asked of an object is as of one that was made alike and did without the call.
     */
    void changesNothing(String call, Supplier<ValuesGo> made, ToLongFunction<ValuesGo> asked, long want) {
        ValuesGo x = made.get();
        due(call, asked.applyAsLong(x), want);
        List<String> with = seen(x);
        List<String> without = seen(made.get());
        for (int i = 0; i < Math.max(with.size(), without.size()); i++) {
            String one = i < with.size() ? with.get(i) : "nothing";
            String other = i < without.size() ? without.get(i) : "nothing";
            if (!one.equals(other)) {
                due("behind " + call + " " + one + ", without it " + other + ": like", 0, 1);
                return;
            }
        }
        due("behind " + call + " all is as it was", 1, 1);
    }

    /** What an object shows, each call with its answer: then its tape made a rule, its levels undone, its image back. */
    private static List<String> seen(ValuesGo x) {
        List<String> all = new ArrayList<>();
        overview(x, all);
        int went = x.count(1);
        for (int i = 0; i < went; i++) {
            all.add("trail(" + i + ", 0) " + x.trail(i, 0));
            all.add("trail(" + i + ", 1) " + x.trail(i, 1));
        }
        int decisions = x.count(2);
        for (int i = 0; i < decisions; i++) {
            all.add("decision(" + i + ", 0) " + x.decision(i, 0));
            all.add("decision(" + i + ", 1) " + x.decision(i, 1));
        }
        int rules = x.count(0);
        for (int i = 0; i < rules; i++) {
            all.add("told(" + i + ", 1) " + x.told(i, 1));
            all.add("told(" + i + ", 3) " + x.told(i, 3));
        }
        for (int sheet = 0; sheet < 4; sheet++) {
            for (int i = 0; i < 40 && x.item(sheet, i) != -99999; i++) {
                all.add("item(" + sheet + ", " + i + ") " + x.item(sheet, i));
            }
            all.add("put(" + sheet + ", 40, 0) " + x.put(sheet, 40, 0));
            all.add("load(" + sheet + ", 1, 0, 0) " + x.load(sheet, 1, 0, 0));
            all.add("load(" + sheet + ", 2, 0, 0) " + x.load(sheet, 2, 0, 0));
        }
        all.add("rule() " + x.rule());
        for (int undone = 0; undone >= 0; ) {
            undone = x.undo();
            all.add("undo() " + undone);
            overview(x, all);
        }
        all.add("back() " + x.back());
        overview(x, all);
        return all;
    }

    private static void overview(ValuesGo x, List<String> all) {
        for (int what = 0; what < 9; what++) {
            all.add("count(" + what + ") " + x.count(what));
        }
        for (int v = 0; v < 8; v++) {
            all.add("domain(" + v + ") " + x.domain(v));
        }
    }

    void close() {
        System.out.println(right + " answers right, " + wrong + " wrong");
        if (wrong > 0 || right == 0) {
            System.exit(1);
        }
    }
}
