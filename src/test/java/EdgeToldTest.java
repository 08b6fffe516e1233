import java.util.function.Supplier;

/** The edges that the document names in promises 20 to 24: tells, film, image, back, count. */
public final class EdgeToldTest {
    private static final int MOST = Integer.MAX_VALUE;
    private static final int LEAST = Integer.MIN_VALUE;
    private static final Check check = new Check();

    public static void main(String[] args) {
        tellsNumbers();
        tellsOfMissing();
        tellsEight();
        tellsValues();
        tellsOfEachSort();
        tellsInOrder();
        tellsAllChoicesAndNone();
        tellsNoSolutionOfAnEarlierSearch();
        tellsByNoChoiceThatIsDear();
        tellsSixteenRules();
        tellsHowManyAreThere();
        tellsChangesNothing();
        filmNumbers();
        filmMakesEightInts();
        filmOfNone();
        filmThatIsDear();
        filmInOrder();
        filmChangesTheSheetAlone();
        imageOfNothing();
        imageOfAFullTrail();
        imageIsTheLatest();
        imageChangesNothing();
        backWithoutAnImage();
        backAgain();
        backToReasonsAndDecisions();
        backToLevels();
        backToAFullHall();
        backToRules();
        backToTheQueue();
        backToAFailure();
        backToRuns();
        backLeavesTapeAndSheets();
        countNumbers();
        countOfAnEmptyAndAFullHall();
        check.close();
    }

    private static ValuesGo hall() {
        ValuesGo x = check.with("a<b", "c<d");
        x.run();
        x.level();
        x.tell(1, 60);
        Check.show(x, 0, 0, 0, 2, 0, 1, 0, 0, 0, 0);
        Check.show(x, 1, 2, 1, 2, 3);
        Check.feed(x, "e=f");
        return x;
    }

    private static int tells(int what, int... values) {
        ValuesGo x = hall();
        Check.show(x, 3, 0, values);
        return x.tells(3, what);
    }

    // ---- promise 20

    private static void tellsNumbers() {
        check.says(20, "BAD: SHEET, what; -11; BAD: it doesn't tell 8, one is no VALUE.");
        ValuesGo x = hall();
        int[] sheets = {-1, 4, MOST, LEAST};
        for (int sheet : sheets) {
            check.due("tells(" + sheet + ", 0)", x.tells(sheet, 0), ValuesGo.BAD);
        }
        int[] what = {-1, 3, MOST, LEAST};
        for (int w : what) {
            check.due("tells(0, " + w + ")", x.tells(0, w), ValuesGo.BAD);
        }
        check.due("tells(0, 0)", x.tells(0, 0), 1 + 8 + 64 + 512);
        check.due("tells(0, 1)", x.tells(0, 1), 0);
        check.due("tells(0, 2)", x.tells(0, 2), 8);
        Check.show(x, 3, 0, 0, 2, 0, 1, 0, 0, 0, 0);
        check.due("tells(3, 2)", x.tells(3, 2), 8);
    }

    private static void tellsOfMissing() {
        check.says(0, "SHEETS 0 .. 3 are rows of numbers, or missing (as all are at first)");
        ValuesGo x = hall();
        for (int what = 0; what < 3; what++) {
            check.due("tells(2, " + what + ")", x.tells(2, what), -11);
            check.due("tells(3, " + what + ")", x.tells(3, what), -11);
        }
        x.sheet(0, -1, 8);
        check.due("tells(0, 0), missing again", x.tells(0, 0), -11);
    }

    private static void tellsEight() {
        check.says(0, "a SHEET tells VALUES of VARIABLES 0, 1, .. (8 numbers)");
        for (int what = 0; what < 3; what++) {
            check.due("none", tells(what), ValuesGo.BAD);
            check.due("one", tells(what, 1), ValuesGo.BAD);
            check.due("seven", tells(what, 0, 2, 0, 1, 0, 0, 0), ValuesGo.BAD);
            check.due("nine", tells(what, 0, 2, 0, 1, 0, 0, 0, 0, 0), ValuesGo.BAD);
            check.due("forty", tells(what, new int[40]), ValuesGo.BAD);
            check.due("whether eight do", tells(what, 0, 2, 0, 1, 0, 0, 0, 0) >= 0 ? 1 : 0, 1);
        }
    }

    private static void tellsValues() {
        check.says(20, "one is no VALUE.");
        int[] wrong = {-1, 10, 256, MOST, LEAST};
        for (int what = 0; what < 3; what++) {
            for (int i = 0; i < 8; i++) {
                for (int w : wrong) {
                    int[] values = {0, 2, 0, 1, 0, 0, 0, 0};
                    values[i] = w;
                    check.due("tells() of " + w + " for VARIABLE " + i, tells(what, values), ValuesGo.BAD);
                }
            }
        }
        check.due("the greatest of each", tells(2, 9, 9, 9, 9, 9, 9, 9, 9), 5);
        check.due("the least of each", tells(2, 0, 0, 0, 0, 0, 0, 0, 0), 6);
    }

    private static void tellsOfEachSort() {
        check.says(0, "of sort 0 ints, 1 shorts, 2 bytes.");
        ValuesGo x = hall();
        for (int sort = 0; sort < 3; sort++) {
            Check.show(x, 2, sort, 0, 2, 0, 1, 0, 0, 0, 0);
            check.due("tells(2, 2) of sort " + sort, x.tells(2, 2), 8);
            check.due("tells(2, 0) of sort " + sort, x.tells(2, 0), 585);
        }
        Check.show(x, 2, 2, 256, 258, 0, 1, 512, 0, 0, -256);
        check.due("of bytes that are cut", x.tells(2, 0), 585);
        Check.show(x, 2, 1, 65536, 65538, 0, 1, 0, 0, 0, -65536);
        check.due("of shorts that are cut", x.tells(2, 0), 585);
        Check.show(x, 2, 1, 256, 2, 0, 1, 0, 0, 0, 0);
        check.due("of shorts that are not", x.tells(2, 0), ValuesGo.BAD);
        Check.show(x, 2, 2, 255, 2, 0, 1, 0, 0, 0, 0);
        check.due("of a byte that is -1", x.tells(2, 0), ValuesGo.BAD);
    }

    private static void tellsInOrder() {
        check.says(20, "BAD: SHEET, what; -11; BAD: it doesn't tell 8, one is no VALUE.");
        ValuesGo x = hall();
        check.due("what ahead of what is missing", x.tells(3, 3), ValuesGo.BAD);
        check.due("what ahead of what is missing", x.tells(3, -1), ValuesGo.BAD);
        check.due("missing", x.tells(3, 2), -11);
        check.due("three numbers", x.tells(1, 2), ValuesGo.BAD);
    }

    private static void tellsAllChoicesAndNone() {
        check.says(0, "CHOICES (bits: 3 times that of the VARIABLE, and that of the VALUE) by which just that is the SOLUTION");
        ValuesGo x = check.told(new int[] {4, 8});
        Check.show(x, 0, 0, 2, 3, 0, 0, 0, 0, 0, 0);
        check.due("by all twelve", x.tells(0, 0), 4095);
        Check.show(x, 0, 0, 2, 3, 0, 0, 0, 0, 0, 1);
        check.due("by none", x.tells(0, 0), 0);
        ValuesGo y = check.told(new int[] {4, 8}, "a!b", "c!c");
        Check.show(y, 0, 0, 2, 3, 0, 0, 0, 0, 0, 0);
        check.due("by none, as there is no SOLUTION", y.tells(0, 0), 0);
        check.due("RULES that don't HOLD", y.tells(0, 1), 2);
    }

    private static void tellsNoSolutionOfAnEarlierSearch() {
        check.says(20, "TOLD: CHOICES (what 0)");
        ValuesGo x = new ValuesGo();
        check.due("film(0, 0, 0)", x.film(0, 0, 0), 8);
        check.due("tells(0, 0)", x.tells(0, 0), 585);
        check.due("search(0, 0, 0, 0)", x.search(0, 0, 0, 0), 0);
        check.due("rule()", Check.rule(x, "a<a"), 0);
        check.due("tells(0, 2): all are there still", x.tells(0, 2), 8);
        check.due("tells(0, 0): there is no SOLUTION any more", x.tells(0, 0), 0);
    }

    private static void tellsByNoChoiceThatIsDear() {
        check.says(0, "by which just that is the SOLUTION (without LEARNING)");
        ValuesGo x = check.hard(49);
        Check.show(x, 0, 0, 4, 9, 0, 0, 0, 1, 0, 0);
        check.due("100 tries by the first with its least", x.tells(0, 0) & 1, 1);
        ValuesGo y = check.hard(49, 3);
        Check.show(y, 0, 0, 4, 9, 0, 0, 0, 1, 0, 0);
        check.due("101 tries", y.tells(0, 0) & 1, 0);
        check.due("tells(0, 2)", y.tells(0, 2), 8);
        check.due("by the fewest: d 0 is found", y.tells(0, 0) >> 3 & 1, 1);
    }

    private static void tellsSixteenRules() {
        check.says(0, "RULES (bits) that don't HOLD for them;");
        ValuesGo x = new ValuesGo();
        for (int i = 0; i < 16; i++) {
            check.due("rule()", Check.rule(x, i % 3 == 0 ? "a=0" : i % 3 == 1 ? "1<0" : "h:b<c"), i);
        }
        Check.show(x, 0, 0, 0, 1, 2, 0, 0, 0, 0, 1);
        check.due("those without VARIABLES", x.tells(0, 1), 0b0010010010010010);
        Check.show(x, 0, 0, 5, 1, 2, 0, 0, 0, 0, 0);
        check.due("all sixteen", x.tells(0, 1), 65535);
        Check.show(x, 0, 0, 0, 1, 1, 0, 0, 0, 0, 2);
        check.due("a REIFIED one with 2", x.tells(0, 1), 0b0110110110110110);
        check.due("no RULE: RULES that don't HOLD", tellsOfNoRule(), 0);
    }

    private static int tellsOfNoRule() {
        ValuesGo x = new ValuesGo();
        Check.show(x, 0, 0, 9, 9, 9, 9, 9, 9, 9, 9);
        return x.tells(0, 1);
    }

    private static void tellsHowManyAreThere() {
        check.says(0, "how many of these are in their DOMAINS.");
        ValuesGo x = new ValuesGo();
        Check.show(x, 0, 0, 5, 5, 5, 5, 5, 5, 5, 5);
        for (int v = 0; v < 8; v++) {
            check.due("tells(0, 2)", x.tells(0, 2), 8 - v);
            x.tell(v, 1023 & ~32);
        }
        check.due("none", x.tells(0, 2), 0);
        x.tell(0, 0);
        check.due("none, failed", x.tells(0, 2), 0);
    }

    private static void tellsChangesNothing() {
        check.says(20, "-11;");
        check.changesNothing("tells(4, 0)", EdgeToldTest::hall, x -> x.tells(4, 0), ValuesGo.BAD);
        check.changesNothing("tells(0, 3)", EdgeToldTest::hall, x -> x.tells(0, 3), ValuesGo.BAD);
        check.changesNothing("tells(3, 0)", EdgeToldTest::hall, x -> x.tells(3, 0), -11);
        check.changesNothing("tells(1, 0)", EdgeToldTest::hall, x -> x.tells(1, 0), ValuesGo.BAD);
        check.changesNothing("tells(0, 0)", EdgeToldTest::hall, x -> x.tells(0, 0), 585);
    }

    // ---- promise 21

    private static void filmNumbers() {
        check.says(21, "BAD; DEAR.");
        ValuesGo x = new ValuesGo();
        int[] wrong = {-1, MOST, LEAST};
        for (int w : wrong) {
            check.due("film(" + w + ", 0, 0)", x.film(w, 0, 0), ValuesGo.BAD);
            check.due("film(0, " + w + ", 0)", x.film(0, w, 0), ValuesGo.BAD);
            check.due("film(0, 0, " + w + ")", x.film(0, 0, w), ValuesGo.BAD);
        }
        check.due("film(4, 0, 0)", x.film(4, 0, 0), ValuesGo.BAD);
        check.due("film(0, 4, 0)", x.film(0, 4, 0), ValuesGo.BAD);
        check.due("film(0, 0, 3)", x.film(0, 0, 3), ValuesGo.BAD);
        check.due("item(0, 0)", x.item(0, 0), -99999);
        check.due("film(3, 3, 2)", x.film(3, 3, 2), 8);
        check.due("item(3, 7)", x.item(3, 7), 5);
        check.due("film(0, 0, 1)", x.film(0, 0, 1), 8);
        check.due("item(0, 0)", x.item(0, 0), 9);
    }

    private static void filmMakesEightInts() {
        check.says(21, "A SHEET truly becomes the SOLUTION by CHOICES (8 ints): 8;");
        for (int sort = -1; sort < 3; sort++) {
            ValuesGo x = check.told(new int[] {128, 2, 4});
            x.sheet(2, sort, 40);
            x.put(2, 39, 77);
            check.due("film(2, 0, 0)", x.film(2, 0, 0), 8);
            int[] due = {7, 1, 2, 0, 0, 0, 0, 0, -99999};
            for (int i = 0; i < due.length; i++) {
                check.due("item(2, " + i + ")", x.item(2, i), due[i]);
            }
            check.due("item(2, 39)", x.item(2, 39), -99999);
            check.due("put(2, 7, most)", x.put(2, 7, MOST), 1);
            check.due("it is of ints", x.item(2, 7), MOST);
            check.due("load(2, 0, 0, 0)", x.load(2, 0, 0, 0), 0);
            check.due("load(2, 1, 0, 0)", x.load(2, 1, 0, 0), -13);
        }
    }

    private static void filmOfNone() {
        check.says(21, "NONE: there is none (the SHEET stays).");
        Supplier<ValuesGo> made = () -> {
            ValuesGo x = hall();
            Check.feed(x, "+1");
            x.rule();
            x.tell(4, 512);
            return x;
        };
        // e is f + 1 and 9, so f is 8; with f below 8 there is none.
        check.due("there is one", made.get().film(1, 0, 0), 8);
        Supplier<ValuesGo> none = () -> {
            ValuesGo x = made.get();
            x.tell(5, 255);
            return x;
        };
        check.changesNothing("film(1, 0, 0) of none", none, x -> x.film(1, 0, 0), ValuesGo.NONE);
        check.changesNothing("film(2, 0, 0) of none", none, x -> x.film(2, 0, 0), ValuesGo.NONE);
        Supplier<ValuesGo> failed = () -> {
            ValuesGo x = none.get();
            x.tell(5, 0);
            return x;
        };
        check.changesNothing("film(1, 0, 0) where all is failed", failed, x -> x.film(1, 0, 0), ValuesGo.NONE);
    }

    private static void filmThatIsDear() {
        check.says(0, "It is DEAR ahead of its 101st TRY.");
        ValuesGo x = check.hard(49);
        check.due("100 tries", x.film(0, 0, 0), 8);
        check.due("item(0, 1)", x.item(0, 1), 9);
        Supplier<ValuesGo> dear = () -> {
            ValuesGo y = check.hard(49, 3);
            Check.show(y, 1, 2, 4, 5);
            return y;
        };
        check.changesNothing("101 tries, a SHEET that is there", dear, y -> y.film(1, 0, 0), ValuesGo.DEAR);
        check.changesNothing("101 tries, a SHEET that is missing", dear, y -> y.film(0, 0, 0), ValuesGo.DEAR);
    }

    private static void filmInOrder() {
        check.says(21, "BAD; DEAR.");
        ValuesGo x = check.hard(50);
        check.due("BAD ahead of DEAR", x.film(4, 0, 0), ValuesGo.BAD);
        check.due("BAD ahead of DEAR", x.film(0, 4, 0), ValuesGo.BAD);
        check.due("BAD ahead of DEAR", x.film(0, 0, 3), ValuesGo.BAD);
        check.due("DEAR", x.film(0, 0, 0), ValuesGo.DEAR);
        ValuesGo y = check.with("a<a");
        check.due("BAD ahead of NONE", y.film(-1, 0, 0), ValuesGo.BAD);
    }

    private static void filmChangesTheSheetAlone() {
        check.says(21, "A SHEET truly becomes the SOLUTION");
        // A SHEET that is that SOLUTION already: nothing else may change.
        check.changesNothing("film(0, 0, 0)", EdgeToldTest::hall, x -> x.film(0, 0, 0), 8);
    }

    // ---- promises 22 and 23

    private static void imageOfNothing() {
        check.says(22, "AN IMAGE is kept: how many VALUES are in THE TRAIL.");
        ValuesGo x = new ValuesGo();
        check.due("image() of a new object", x.image(), 0);
        Check.rule(x, "a<b");
        x.run();
        x.level();
        x.tell(7, 0);
        check.due("count(8)", x.count(8), 1);
        check.due("back()", x.back(), 0);
        int[] due = {0, 0, 0, 0, 0, 0, 0, 0, 0};
        for (int what = 0; what < 9; what++) {
            check.due("count(" + what + ")", x.count(what), due[what]);
        }
        check.due("told(0, 0)", x.told(0, 0), ValuesGo.BAD);
        for (int v = 0; v < 8; v++) {
            check.due("domain(" + v + ")", x.domain(v), 1023);
        }
    }

    private static void imageOfAFullTrail() {
        check.says(22, "how many VALUES are in THE TRAIL.");
        ValuesGo x = new ValuesGo();
        for (int v = 0; v < 8; v++) {
            check.due("image()", x.image(), 9 * v);
            x.tell(v, v < 7 ? 2 : 0);
        }
        check.due("image()", x.image(), 73);
        check.due("back()", x.back(), 73);
    }

    private static void imageIsTheLatest() {
        check.says(22, "AN IMAGE is kept");
        ValuesGo x = new ValuesGo();
        x.tell(0, 511);
        x.image();
        x.tell(1, 3);
        check.due("image(), another", x.image(), 9);
        x.tell(2, 1);
        check.due("back()", x.back(), 9);
        check.due("back() to the same", x.back(), 9);
        check.due("domain(1)", x.domain(1), 3);
    }

    private static void imageChangesNothing() {
        check.says(22, "AN IMAGE is kept");
        Supplier<ValuesGo> made = () -> {
            ValuesGo x = hall();
            x.image();
            return x;
        };
        check.changesNothing("image() again", made, ValuesGo::image, 9);
    }

    private static void backWithoutAnImage() {
        check.says(23, "STATE: there is none.");
        check.changesNothing("back() of a new object", ValuesGo::new, ValuesGo::back, ValuesGo.STATE);
        check.changesNothing("back() without an image", EdgeToldTest::hall, ValuesGo::back, ValuesGo.STATE);
    }

    private static void backAgain() {
        check.says(23, "All that it keeps is as in THE IMAGE: how many VALUES are in THE TRAIL.");
        ValuesGo x = hall();
        x.image();
        for (int i = 0; i < 5; i++) {
            x.tell(5, 1 << i);
            x.run();
            check.due("back()", x.back(), 9);
            check.due("domain(5)", x.domain(5), 1023);
            check.due("count(2)", x.count(2), 1);
        }
    }

    /** Two levels, decisions and a rule behind each: an image of them; then both undone and others in their place. */
    private static ValuesGo laidOver() {
        ValuesGo x = check.with("a<b");
        x.run();
        check.due("level()", x.level(), 1);
        check.due("tell(7, 1)", x.tell(7, 1), 9);
        check.due("level()", x.level(), 2);
        check.due("tell(6, 3)", x.tell(6, 3), 8);
        check.due("rule()", Check.rule(x, "c<d"), 1);
        check.due("run()", x.run(), 1);
        check.due("image()", x.image(), 21);
        check.due("undo()", x.undo(), 10);
        check.due("undo()", x.undo(), 9);
        check.due("run()", x.run(), 1);
        check.due("tell(2, 4)", x.tell(2, 4), 8);
        check.due("run()", x.run(), 1);
        check.due("tell(1, 4)", x.tell(1, 4), 8);
        check.due("run()", x.run(), 1);
        check.due("level()", x.level(), 1);
        check.due("tell(5, 1)", x.tell(5, 1), 9);
        check.due("level()", x.level(), 2);
        check.due("level()", x.level(), 3);
        check.due("back()", x.back(), 21);
        return x;
    }

    private static void backToReasonsAndDecisions() {
        check.says(0, "AN IMAGE keeps RULES, DOMAINS, DECISIONS, THE TRAIL,");
        ValuesGo x = laidOver();
        int[] values = {9, 10, 71, 72, 73, 74, 75, 76, 77, 78, 79, 62, 63, 64, 65, 66, 67, 68, 69, 29, 30};
        for (int i = 0; i < 21; i++) {
            check.due("trail(" + i + ", 0)", x.trail(i, 0), values[i]);
            check.due("trail(" + i + ", 1)", x.trail(i, 1), i < 2 ? 0 : i < 11 ? 100 : i < 19 ? 101 : 1);
        }
        check.due("trail(21, 0)", x.trail(21, 0), -12);
        check.due("count(2)", x.count(2), 2);
        int[] decisions = {7, 1, 6, 3};
        for (int i = 0; i < 4; i++) {
            check.due("decision(" + i / 2 + ", " + i % 2 + ")", x.decision(i / 2, i % 2), decisions[i]);
        }
        int[] domains = {511, 1022, 511, 1022, 1023, 1023, 3, 1};
        for (int v = 0; v < 8; v++) {
            check.due("domain(" + v + ")", x.domain(v), domains[v]);
        }
        check.due("told(0, 6)", x.told(0, 6), 2);
        check.due("told(1, 6)", x.told(1, 6), 2);
    }

    private static void backToLevels() {
        check.says(0, "THE QUEUE, LEVELS, whether all is FAILED, how many RUNS there were.");
        ValuesGo x = laidOver();
        check.due("count(3)", x.count(3), 2);
        check.due("count(4)", x.count(4), 0);
        check.due("undo()", x.undo(), 10);
        check.due("count(2)", x.count(2), 1);
        check.due("c<d came since", x.told(1, 3), 1);
        check.due("a<b did not", x.told(0, 3), 0);
        check.due("domain(6)", x.domain(6), 1023);
        check.due("undo()", x.undo(), 9);
        check.due("count(2)", x.count(2), 0);
        check.due("c<d came since", x.told(1, 3), 1);
        check.due("count(1)", x.count(1), 2);
        check.due("undo()", x.undo(), ValuesGo.STATE);
    }

    private static void backToAFullHall() {
        check.says(23, "All that it keeps is as in THE IMAGE");
        ValuesGo x = new ValuesGo();
        for (int i = 0; i < 8; i++) {
            x.level();
            x.tell(7, 1023 - (1 << i));
        }
        for (int i = 0; i < 4; i++) {
            x.tell(i, 1 << i);
        }
        for (int i = 0; i < 16; i++) {
            Check.rule(x, "a<9");
        }
        check.due("image()", x.image(), 44);
        for (int i = 0; i < 8; i++) {
            x.undo();
        }
        check.due("count(1)", x.count(1), 0);
        check.due("back()", x.back(), 44);
        int[] due = {16, 44, 12, 8, 16, 0, 4, 0, 0};
        for (int what = 0; what < 9; what++) {
            check.due("count(" + what + ")", x.count(what), due[what]);
        }
        check.due("tell()", x.tell(0, 1), ValuesGo.FULL);
        check.due("rule()", x.rule(), ValuesGo.FULL);
        check.due("run()", x.run(), 16);
        check.due("level()", x.level(), ValuesGo.FULL);
        check.due("undo()", x.undo(), 37);
    }

    private static void backToRules() {
        check.says(0, "AN IMAGE keeps RULES,");
        ValuesGo x = new ValuesGo();
        x.image();
        for (int round = 0; round < 2; round++) {
            for (int i = 0; i < 16; i++) {
                check.due("rule()", Check.rule(x, round == 0 ? "a<b" : "h<9"), i);
            }
            check.due("rule(), the seventeenth", x.rule(), ValuesGo.FULL);
            check.due("told(15, 1)", x.told(15, 1), round == 0 ? 3 : 128);
            check.due("run()", x.run(), 16);
            check.due("domain(7)", x.domain(7), round == 0 ? 1023 : 511);
            check.due("back()", x.back(), 0);
            check.due("count(0)", x.count(0), 0);
            check.due("count(4)", x.count(4), 0);
            x.tell(0, 3);
            check.due("no RULE comes to the queue", x.count(4), 0);
            check.due("back()", x.back(), 0);
        }
    }

    private static void backToTheQueue() {
        check.says(0, "THE TRAIL, THE QUEUE,");
        ValuesGo x = check.with("a<b", "c<d", "e<9");
        check.due("step()", x.step(), 2);
        x.image();
        x.run();
        check.due("count(4)", x.count(4), 0);
        x.back();
        check.due("count(4)", x.count(4), 2);
        check.due("told(0, 3)", x.told(0, 3), 1);
        check.due("told(1, 3)", x.told(1, 3), 1);
        check.due("told(2, 3)", x.told(2, 3), 0);
        check.due("level()", x.level(), ValuesGo.STATE);
        check.due("run()", x.run(), 2);
        x.image();
        x.tell(0, 7);
        check.due("count(4)", x.count(4), 1);
        x.back();
        check.due("count(4)", x.count(4), 0);
        check.due("level()", x.level(), 1);
    }

    private static void backToAFailure() {
        check.says(0, "whether all is FAILED,");
        ValuesGo x = new ValuesGo();
        x.level();
        x.tell(0, 0);
        check.due("image()", x.image(), 10);
        check.due("undo()", x.undo(), 10);
        check.due("tell()", x.tell(1, 1), 9);
        check.due("back()", x.back(), 10);
        check.due("count(8)", x.count(8), 1);
        check.due("tell()", x.tell(1, 1), ValuesGo.STATE);
        check.due("domain(0)", x.domain(0), 0);
        check.due("domain(1)", x.domain(1), 1023);
        check.due("undo()", x.undo(), 10);
        check.due("count(8)", x.count(8), 0);
    }

    private static void backToRuns() {
        check.says(0, "how many RUNS there were.");
        ValuesGo x = check.with("a<b");
        x.image();
        x.run();
        check.due("count(5)", x.count(5), 1);
        x.back();
        check.due("count(5)", x.count(5), 0);
        x.run();
        x.image();
        x.tell(0, 7);
        x.run();
        check.due("count(5)", x.count(5), 2);
        x.back();
        check.due("count(5)", x.count(5), 1);
    }

    private static void backLeavesTapeAndSheets() {
        check.says(0, "AN IMAGE keeps RULES, DOMAINS, DECISIONS, THE TRAIL, THE QUEUE, LEVELS, whether all is FAILED, how many "
            + "RUNS there were.");
        ValuesGo x = new ValuesGo();
        Check.feed(x, "a=");
        Check.show(x, 0, 0, 1, 2);
        x.image();
        x.feed('5');
        x.put(0, 0, 7);
        x.sheet(1, 2, 3);
        check.due("back()", x.back(), 0);
        check.due("count(7)", x.count(7), 3);
        check.due("item(0, 0)", x.item(0, 0), 7);
        check.due("item(1, 2)", x.item(1, 2), 0);
        check.due("rule()", x.rule(), 0);
    }

    // ---- promise 24

    private static void countNumbers() {
        check.says(24, "whether all is FAILED (8; 1, 0). BAD.");
        int[] wrong = {-1, 9, 10, MOST, LEAST};
        for (int what : wrong) {
            check.changesNothing("count(" + what + ")", EdgeToldTest::hall, x -> x.count(what), ValuesGo.BAD);
        }
    }

    private static void countOfAnEmptyAndAFullHall() {
        check.says(24, "How many: 0 RULES, 1 VALUES in THE TRAIL, 2 DECISIONS, 3 LEVELS, 4 RULES in THE QUEUE, 5 RUNS ever, 6 "
            + "SETTLED VARIABLES, 7 bytes of THE TAPE;");
        ValuesGo x = new ValuesGo();
        for (int what = 0; what < 9; what++) {
            check.due("count(" + what + ") of a new object", x.count(what), 0);
        }
        for (int i = 0; i < 8; i++) {
            x.level();
        }
        for (int i = 0; i < 16; i++) {
            Check.rule(x, "1<2");
        }
        for (int i = 0; i < 12; i++) {
            x.tell(i % 8, 1);
        }
        Check.feed(x, "%".repeat(90));
        int[] full = {16, 72, 12, 8, 16, 0, 8, 90, 0};
        for (int what = 0; what < 9; what++) {
            check.due("count(" + what + ") of a full hall", x.count(what), full[what]);
        }
        x.run();
        check.due("count(5)", x.count(5), 16);
        check.due("count(4)", x.count(4), 0);
    }
}
