import java.util.function.Supplier;

/** The edges that the document names in promises 1 to 6: a new object, feed, rule, told, holds, taken. */
public final class EdgeRulesTest {
    private static final int MOST = Integer.MAX_VALUE;
    private static final int LEAST = Integer.MIN_VALUE;
    private static final Check check = new Check();

    public static void main(String[] args) {
        newObject();
        feedBytes();
        feedBehindTheLast();
        feedFull();
        feedRefusedChangesNothing();
        feedWhereAllIsFailed();
        ruleOfAnEmptyTape();
        ruleSixteen();
        ruleFullAheadOfAll();
        ruleStateAheadOfAFault();
        ruleRefusedChangesNothing();
        ruleWithAFault();
        rulesInTheQueue();
        toldNumbers();
        toldRefusedChangesNothing();
        toldOfEachVariable();
        toldInTheQueue();
        toldIdleOfOneVariable();
        toldIdleWhereAllIsFailed();
        toldWaysOfNoneAndOfAll();
        toldWaysOfALaterRule();
        toldWent();
        holdsNumbers();
        holdsMoreThanItHas();
        holdsRefusedChangesNothing();
        takenKinds();
        takenOfNone();
        takenInOrder();
        takenRefusedChangesNothing();
        check.close();
    }

    /** Rules of each KIND, a LEVEL, DECISIONS, an image, and a text on the tape. */
    private static ValuesGo someHall() {
        ValuesGo x = check.with("a<b", "c:a<d", "distinct e f");
        x.run();
        x.level();
        x.tell(0, 62);
        x.image();
        x.tell(4, 3);
        x.step();
        Check.show(x, 1, 1, 7, 8);
        Check.feed(x, "g=1");
        return x;
    }

    private static ValuesGo sixteen() {
        ValuesGo x = new ValuesGo();
        for (int i = 0; i < 16; i++) {
            check.due("rule() " + i + " of 16", Check.rule(x, "a<b"), i);
        }
        return x;
    }

    private static ValuesGo failed() {
        ValuesGo x = check.with("a<b");
        x.run();
        x.level();
        check.due("tell(0, 0)", x.tell(0, 0), 9);
        return x;
    }

    // ---- promise 1

    private static void newObject() {
        check.says(1, "No RULES, all DOMAINS full.");
        ValuesGo x = new ValuesGo();
        for (int value = 0; value < 80; value++) {
            check.due("trail(0, " + (1000 + value) + ")", x.trail(0, 1000 + value), ValuesGo.NONE);
        }
        for (int what = 0; what < 7; what++) {
            check.due("told(0, " + what + ")", x.told(0, what), ValuesGo.BAD);
        }
        for (int v = 0; v < 8; v++) {
            check.due("domain(" + v + ")", x.domain(v), 1023);
        }
        for (int sheet = 0; sheet < 4; sheet++) {
            check.due("item(" + sheet + ", 0)", x.item(sheet, 0), -99999);
            check.due("put(" + sheet + ", 0, 0)", x.put(sheet, 0, 0), -11);
        }
        check.due("holds(0, 0, 0, 0)", x.holds(0, 0, 0, 0), ValuesGo.BAD);
        check.due("taken(0, 0)", x.taken(0, 0), -11);
        check.due("decision(0, 0)", x.decision(0, 0), -12);
        check.due("why(-1, 0)", x.why(-1, 0), ValuesGo.NONE);
        check.due("run()", x.run(), 0);
        check.due("step()", x.step(), ValuesGo.NONE);
        check.due("image()", x.image(), 0);
        check.due("level()", x.level(), 1);
        check.due("rule() of nothing", x.rule(), -100);
    }

    // ---- promise 2

    private static void feedBytes() {
        check.says(2, "A byte (0 .. 255) comes behind THE TAPE: how many it has.");
        ValuesGo x = new ValuesGo();
        check.due("feed(0)", x.feed(0), 1);
        check.due("feed(255)", x.feed(255), 2);
        int[] wrong = {-1, 256, 257, -255, -256, 256 + 97, 65536, MOST, LEAST};
        for (int letter : wrong) {
            check.due("feed(" + letter + ")", x.feed(letter), ValuesGo.BAD);
        }
        check.due("count(7)", x.count(7), 2);
    }

    private static void feedBehindTheLast() {
        check.says(2, "comes behind THE TAPE: how many it has.");
        ValuesGo x = new ValuesGo();
        check.due("feed('a')", x.feed('a'), 1);
        check.due("feed('=')", x.feed('='), 2);
        check.due("feed(256)", x.feed(256), ValuesGo.BAD);
        check.due("feed('7')", x.feed('7'), 3);
        check.due("rule()", x.rule(), 0);
        check.due("feed(' ') on an empty tape", x.feed(' '), 1);
        x.run();
        check.due("in the order they came", x.domain(0), 128);
    }

    private static void feedFull() {
        check.says(0, "THE TAPE (90 bytes at most)");
        ValuesGo x = new ValuesGo();
        Check.feed(x, "a<b" + " ".repeat(85));
        check.due("feed(), byte 89", x.feed(' '), 89);
        check.due("feed(), byte 90", x.feed(' '), 90);
        check.due("feed(), byte 91", x.feed('%'), ValuesGo.FULL);
        check.due("count(7)", x.count(7), 90);
        check.due("rule() of the 90", x.rule(), 0);
        check.due("feed() behind it", x.feed('a'), 1);
    }

    private static void feedRefusedChangesNothing() {
        check.says(2, "BAD; FULL.");
        check.changesNothing("feed(256)", EdgeRulesTest::someHall, x -> x.feed(256), ValuesGo.BAD);
        Supplier<ValuesGo> full = () -> {
            ValuesGo x = new ValuesGo();
            Check.feed(x, "a<b+" + "1+".repeat(42) + "c ");
            return x;
        };
        check.changesNothing("feed('c') on a full tape", full, x -> x.feed('c'), ValuesGo.FULL);
        check.changesNothing("feed(0) on a full tape", full, x -> x.feed(0), ValuesGo.FULL);
        check.changesNothing("feed(256) on a full tape", full, x -> x.feed(256), ValuesGo.BAD);
        check.changesNothing("feed(-1) on a full tape", full, x -> x.feed(-1), ValuesGo.BAD);
    }

    private static void feedWhereAllIsFailed() {
        check.says(2, "A byte (0 .. 255) comes behind THE TAPE: how many it has.");
        ValuesGo x = failed();
        check.due("feed() where all is failed", x.feed('a'), 1);
        ValuesGo y = sixteen();
        check.due("feed() with 16 rules there", y.feed('a'), 1);
    }

    // ---- promise 3

    private static void ruleOfAnEmptyTape() {
        check.says(3, "-100 less the place of its FAULT (THE TAPE is empty then, too).");
        ValuesGo x = new ValuesGo();
        check.due("rule() of nothing", x.rule(), -100);
        check.due("count(0)", x.count(0), 0);
        check.due("count(4)", x.count(4), 0);
        check.changesNothing("rule() of nothing", ValuesGo::new, ValuesGo::rule, -100);
    }

    private static void ruleSixteen() {
        check.says(0, "RULES (16 at most, numbered from 0)");
        ValuesGo x = sixteen();
        check.due("count(0)", x.count(0), 16);
        check.due("count(4)", x.count(4), 16);
        check.due("told(15, 2)", x.told(15, 2), 2);
        check.due("told(16, 2)", x.told(16, 2), ValuesGo.BAD);
        check.due("rule() 16", Check.rule(x, "a<b"), ValuesGo.FULL);
        check.due("count(0)", x.count(0), 16);
        check.due("the queue is full: step()", x.step(), 0);
        check.due("the others wait still", x.count(4), 15);
        check.due("run() of a full queue's rest", x.run(), 15);
    }

    private static void ruleFullAheadOfAll() {
        check.says(3, "FULL: 16 (ahead of all; THE TAPE stays);");
        ValuesGo x = sixteen();
        check.due("rule() of nothing", x.rule(), ValuesGo.FULL);
        check.due("rule() of a FAULT", Check.rule(x, "%%"), ValuesGo.FULL);
        check.due("count(7)", x.count(7), 2);
        x.run();
        x.tell(1, 0);
        check.due("count(8)", x.count(8), 1);
        check.due("rule() of a FAULT, failed", x.rule(), ValuesGo.FULL);
        check.due("count(7)", x.count(7), 2);
        check.due("feed() behind it", x.feed('a'), 3);
    }

    private static void ruleStateAheadOfAFault() {
        check.says(3, "STATE: all is FAILED (behind that, ahead of a FAULT; THE TAPE stays).");
        ValuesGo x = failed();
        check.due("rule() of nothing", x.rule(), ValuesGo.STATE);
        check.due("rule() of a FAULT", Check.rule(x, "%%"), ValuesGo.STATE);
        check.due("count(7)", x.count(7), 2);
        x.undo();
        check.due("rule() of it, failed no more", x.rule(), -100);
        check.due("count(7)", x.count(7), 0);
    }

    private static void ruleRefusedChangesNothing() {
        check.says(0, "Refusals, the first that the call's words name; they change nothing:");
        check.changesNothing("rule() with 16 there", () -> {
            ValuesGo x = sixteen();
            Check.feed(x, "c=1");
            return x;
        }, ValuesGo::rule, ValuesGo.FULL);
        check.changesNothing("rule() where all is failed", () -> {
            ValuesGo x = failed();
            Check.feed(x, "c=1");
            return x;
        }, ValuesGo::rule, ValuesGo.STATE);
    }

    private static void ruleWithAFault() {
        check.says(3, "-100 less the place of its FAULT (THE TAPE is empty then, too).");
        ValuesGo x = check.with("a<b");
        check.due("rule() of a FAULT", Check.rule(x, "a+c<b+d"), -106);
        check.due("count(0)", x.count(0), 1);
        check.due("count(4)", x.count(4), 1);
        check.due("count(7)", x.count(7), 0);
        check.due("told(0, 1)", x.told(0, 1), 3);
        check.due("told(1, 1)", x.told(1, 1), ValuesGo.BAD);
        x.run();
        x.tell(2, 1);
        check.due("count(4): no rule has c", x.count(4), 0);
        check.due("the last place of all", Check.rule(x, " ".repeat(89) + "%"), -189);
        check.due("the end of a full tape", Check.rule(x, " ".repeat(90)), -190);
        check.due("the next RULE's number", Check.rule(x, "c<d"), 1);
    }

    private static void rulesInTheQueue() {
        check.says(3, "is a RULE, which comes to THE QUEUE: its number;");
        ValuesGo x = check.with("a<b");
        check.due("count(4)", x.count(4), 1);
        x.run();
        check.due("count(4)", x.count(4), 0);
        check.due("rule()", Check.rule(x, "c<d"), 1);
        check.due("told(0, 3)", x.told(0, 3), 0);
        check.due("told(1, 3)", x.told(1, 3), 1);
        check.due("nothing went yet", x.count(1), 2);
    }

    // ---- promise 4

    private static void toldNumbers() {
        check.says(4, "BAD.");
        ValuesGo x = check.with("a<b", "c:a<d", "distinct e f");
        for (int what = 0; what < 7; what++) {
            check.due("told(-1, " + what + ")", x.told(-1, what), ValuesGo.BAD);
            check.due("told(3, " + what + ")", x.told(3, what), ValuesGo.BAD);
            check.due("told(15, " + what + ")", x.told(15, what), ValuesGo.BAD);
            check.due("told(16, " + what + ")", x.told(16, what), ValuesGo.BAD);
            check.due("whether told(2, " + what + ") is there", x.told(2, what) >= 0 ? 1 : 0, 1);
        }
        check.due("told(0, -1)", x.told(0, -1), ValuesGo.BAD);
        check.due("told(0, 7)", x.told(0, 7), ValuesGo.BAD);
        check.due("told(most, 0)", x.told(MOST, 0), ValuesGo.BAD);
        check.due("told(least, 0)", x.told(LEAST, 0), ValuesGo.BAD);
        check.due("told(0, most)", x.told(0, MOST), ValuesGo.BAD);
        check.due("told(0, least)", x.told(0, LEAST), ValuesGo.BAD);
    }

    private static void toldRefusedChangesNothing() {
        check.says(4, "BAD.");
        check.changesNothing("told(3, 4)", EdgeRulesTest::someHall, x -> x.told(3, 4), ValuesGo.BAD);
        check.changesNothing("told(0, 7)", EdgeRulesTest::someHall, x -> x.told(0, 7), ValuesGo.BAD);
        check.changesNothing("told(0, 4)", EdgeRulesTest::someHall, x -> x.told(0, 4), 0);
    }

    private static void toldOfEachVariable() {
        check.says(4, "KIND (what 0), VARIABLES (1; bits)");
        ValuesGo x = check.with("1<2", "h<1", "a<h", "g:a<h", "distinct f h a", "distinct h g");
        int[] variables = {0, 128, 129, 193, 161, 192};
        int[] kinds = {0, 0, 0, 1, 2, 2};
        for (int rule = 0; rule < 6; rule++) {
            check.due("told(" + rule + ", 0)", x.told(rule, 0), kinds[rule]);
            check.due("told(" + rule + ", 1)", x.told(rule, 1), variables[rule]);
        }
    }

    private static void toldInTheQueue() {
        check.says(4, "whether it is in THE QUEUE (3; 1, 0)");
        ValuesGo x = sixteen();
        check.due("told(0, 3)", x.told(0, 3), 1);
        check.due("told(15, 3)", x.told(15, 3), 1);
        x.run();
        check.due("told(0, 3) behind run()", x.told(0, 3), 0);
        check.due("told(15, 3) behind run()", x.told(15, 3), 0);
        x.tell(0, 3);
        check.due("told(15, 3) behind tell()", x.told(15, 3), 1);
        x.tell(1, 0);
        check.due("told(15, 3) where all is failed", x.told(15, 3), 0);
    }

    private static void toldIdleOfOneVariable() {
        check.says(0, "IDLE is a RULE without which all DOMAINS FROM START, with all DECISIONS, are the same");
        for (int v = 0; v < 8; v++) {
            char name = (char) ('a' + v);
            ValuesGo x = check.with(name + "<9", name + "<10", "1<2");
            check.due("'" + name + "<9': one VALUE of one VARIABLE", x.told(0, 4), 0);
            check.due("'" + name + "<10' does nothing", x.told(1, 4), 1);
            x.tell(v, 511);
            check.due("'" + name + "<9' behind a DECISION that does it", x.told(0, 4), 1);
        }
        check.due("the one RULE there is", check.with("1<0").told(0, 4), 1);
    }

    private static void toldIdleWhereAllIsFailed() {
        check.says(0, "(or all is FAILED, as with it)");
        ValuesGo x = check.with("a<0");
        check.due("without it nothing is failed", x.told(0, 4), 0);
        ValuesGo y = check.with("a<0", "b<0", "c<5");
        check.due("without it all is failed still", y.told(0, 4), 1);
        check.due("nor by the other one", y.told(1, 4), 1);
        check.due("a RULE that has no part in it", y.told(2, 4), 1);
        ValuesGo z = check.with("a<5", "a>3");
        z.tell(0, 0);
        check.due("failed by a DECISION alone", z.told(0, 4), 1);
    }

    private static void toldWaysOfNoneAndOfAll() {
        check.says(4, "for how many ways its VARIABLES can have VALUES of their DOMAINS it HOLDS (5)");
        ValuesGo x = check.with("a+b+c<99", "a+b+c>99", "a=9", "1<2", "2<1", "a+b<99");
        int[] due = {1000, 0, 1, 1, 0, 100};
        for (int rule = 0; rule < due.length; rule++) {
            check.due("told(" + rule + ", 5)", x.told(rule, 5), due[rule]);
        }
        x.tell(2, 0);
        int[] failed = {0, 0, 1, 1, 0, 100};
        for (int rule = 0; rule < failed.length; rule++) {
            check.due("told(" + rule + ", 5) with none for c", x.told(rule, 5), failed[rule]);
        }
    }

    private static void toldWaysOfALaterRule() {
        check.says(4, "for how many ways its VARIABLES can have VALUES of their DOMAINS it HOLDS (5)");
        ValuesGo x = check.with("f+g+h<99", "a+b+c<99", "h:a+b<99", "distinct c d e");
        x.tell(0, 3);
        x.tell(1, 7);
        x.tell(2, 31);
        check.due("f, g, h are free", x.told(0, 5), 1000);
        check.due("2 times 3 times 5", x.told(1, 5), 30);
        check.due("2 times 3, and h is 1", x.told(2, 5), 6);
        check.due("5 times 9 times 8", x.told(3, 5), 360);
        x.tell(5, 1);
        check.due("f is one of ten no more", x.told(0, 5), 100);
    }

    private static void toldWent() {
        check.says(4, "how many VALUES went by it, of THE TRAIL (6).");
        ValuesGo x = check.with("a<b", "c<0");
        check.due("told(0, 6) ahead of all", x.told(0, 6), 0);
        x.step();
        check.due("all of c's", x.told(1, 6), 10);
        check.due("told(0, 6): it ran not, as all is failed", x.told(0, 6), 0);
        ValuesGo y = check.with("a<b");
        y.run();
        y.level();
        y.tell(1, 3);
        y.run();
        check.due("two and a's 1 to 8", y.told(0, 6), 10);
        y.undo();
        check.due("those that are gone still", y.told(0, 6), 2);
    }

    // ---- promise 5

    private static void holdsNumbers() {
        check.says(5, "Whether a RULE HOLDS for x, y, z as VALUES of its VARIABLES by numbers");
        ValuesGo x = check.with("c+b+a<99", "a<b", "h=9");
        int[] wrong = {-1, 10, MOST, LEAST, 16, 1024};
        for (int w : wrong) {
            check.due("x " + w, x.holds(0, w, 0, 0), ValuesGo.BAD);
            check.due("y " + w, x.holds(0, 0, w, 0), ValuesGo.BAD);
            check.due("z " + w, x.holds(0, 0, 0, w), ValuesGo.BAD);
            check.due("x " + w + " of two", x.holds(1, w, 0, 0), ValuesGo.BAD);
            check.due("y " + w + " of two", x.holds(1, 0, w, 0), ValuesGo.BAD);
            check.due("x " + w + " of one", x.holds(2, w, 0, 0), ValuesGo.BAD);
        }
        check.due("0, 0, 0", x.holds(0, 0, 0, 0), 1);
        check.due("9, 9, 9", x.holds(0, 9, 9, 9), 1);
        check.due("rule -1", x.holds(-1, 0, 0, 0), ValuesGo.BAD);
        check.due("rule 3", x.holds(3, 0, 0, 0), ValuesGo.BAD);
        check.due("rule 16", x.holds(16, 0, 0, 0), ValuesGo.BAD);
        check.due("rule most", x.holds(MOST, 0, 0, 0), ValuesGo.BAD);
        check.due("rule least", x.holds(LEAST, 0, 0, 0), ValuesGo.BAD);
    }

    private static void holdsMoreThanItHas() {
        check.says(5, "(more than it has don't matter)");
        ValuesGo x = check.with("h>g", "h=9", "1<2", "distinct g h", "g:h=9");
        int[] any = {-1, 10, MOST, LEAST};
        for (int a : any) {
            check.due("g 0, h 9: h>g, z " + a, x.holds(0, 0, 9, a), 1);
            check.due("g 9, h 0: h>g, z " + a, x.holds(0, 9, 0, a), 0);
            check.due("h 9, y and z " + a, x.holds(1, 9, a, a), 1);
            check.due("h 0, y and z " + a, x.holds(1, 0, a, a), 0);
            check.due("x, y and z " + a, x.holds(2, a, a, a), 1);
            check.due("unlike, z " + a, x.holds(3, 4, 5, a), 1);
            check.due("g 1, h 9, z " + a, x.holds(4, 1, 9, a), 1);
        }
    }

    private static void holdsRefusedChangesNothing() {
        check.says(5, "BAD.");
        check.changesNothing("holds(0, 10, 0, 0)", EdgeRulesTest::someHall, x -> x.holds(0, 10, 0, 0), ValuesGo.BAD);
        check.changesNothing("holds(3, 0, 0, 0)", EdgeRulesTest::someHall, x -> x.holds(3, 0, 0, 0), ValuesGo.BAD);
        ValuesGo x = failed();
        check.due("holds() where all is failed", x.holds(0, 0, 9, 0), 1);
    }

    // ---- promise 6

    private static void takenKinds() {
        check.says(6, "A RULE taken for one of KIND k (0 .. 2; a REIFIED one for a PLAIN one, too): how many VARIABLES it has.");
        ValuesGo x = check.with("1<2", "a<b", "a+b<c", "a:1<2", "a:b<c", "distinct a b", "distinct a b c");
        int[][] due = {{0, -13, -13}, {2, -13, -13}, {3, -13, -13}, {1, 1, -13}, {3, 3, -13}, {-13, -13, 2}, {-13, -13, 3}};
        for (int rule = 0; rule < due.length; rule++) {
            for (int k = 0; k < 3; k++) {
                check.due("taken(" + rule + ", " + k + ")", x.taken(rule, k), due[rule][k]);
            }
            check.due("taken(" + rule + ", -1)", x.taken(rule, -1), ValuesGo.BAD);
            check.due("taken(" + rule + ", 3)", x.taken(rule, 3), ValuesGo.BAD);
        }
    }

    private static void takenOfNone() {
        check.says(6, "-11: none such;");
        ValuesGo x = check.with("a<b");
        int[] none = {-1, 1, 15, 16, 23, MOST, LEAST};
        for (int rule : none) {
            for (int k = 0; k < 3; k++) {
                check.due("taken(" + rule + ", " + k + ")", x.taken(rule, k), -11);
            }
        }
        ValuesGo y = sixteen();
        check.due("taken(15, 0)", y.taken(15, 0), 2);
        check.due("taken(16, 0)", y.taken(16, 0), -11);
    }

    private static void takenInOrder() {
        check.says(6, "BAD: k; -11: none such; -13.");
        ValuesGo x = check.with("a<b");
        int[] wrong = {-1, 3, MOST, LEAST};
        for (int k : wrong) {
            check.due("k ahead of none such: taken(9, " + k + ")", x.taken(9, k), ValuesGo.BAD);
            check.due("k ahead of another KIND: taken(0, " + k + ")", x.taken(0, k), ValuesGo.BAD);
        }
    }

    private static void takenRefusedChangesNothing() {
        check.says(6, "BAD: k; -11: none such; -13.");
        check.changesNothing("taken(0, 3)", EdgeRulesTest::someHall, x -> x.taken(0, 3), ValuesGo.BAD);
        check.changesNothing("taken(3, 0)", EdgeRulesTest::someHall, x -> x.taken(3, 0), -11);
        check.changesNothing("taken(2, 0)", EdgeRulesTest::someHall, x -> x.taken(2, 0), -13);
    }
}
