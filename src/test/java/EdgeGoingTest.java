/** The edges that the document names in promises 7 to 16: tell, step, run, level, undo, domain, trail, decision, why, mixed. */
public final class EdgeGoingTest {
    private static final int MOST = Integer.MAX_VALUE;
    private static final int LEAST = Integer.MIN_VALUE;
    private static final Check check = new Check();

    public static void main(String[] args) {
        tellNumbers();
        tellTwelve();
        tellInOrder();
        tellRefusedChangesNothing();
        tellByWhichNoneGoes();
        tellByWhichAllGo();
        stepOfNone();
        stepOfAFullQueue();
        stepOfLikePriority();
        runOfNone();
        runThatFails();
        pruningFailsWithinARule();
        pruningByDomainsAsTheyWere();
        levelEight();
        levelInOrder();
        levelRefusedChangesNothing();
        undoOfNone();
        undoEight();
        undoOfNothingGone();
        undoOfDecisions();
        undoOfAFullTrail();
        undoEmptiesTheQueue();
        undoQueuesRulesThatCame();
        undoTheLastFirst();
        domainNumbers();
        trailEmpty();
        trailNumbers();
        trailFull();
        trailOfValues();
        trailOfReasons();
        decisionNumbers();
        decisionsNumberedAsTheyCome();
        askedInVain();
        whyNumbers();
        whyNone();
        whyByNone();
        whyOfTwelve();
        whyFromTheFirstOn();
        whyWhereAllIsFailed();
        mixedNumbers();
        mixedOfFailure();
        mixedSeeds();
        check.close();
    }

    private static ValuesGo twelve() {
        ValuesGo x = check.with("a<b");
        x.run();
        x.level();
        for (int i = 0; i < 12; i++) {
            check.due("tell(7, ..), number " + i, x.tell(7, 1023 & -(1 << i % 10)), i == 0 || i > 9 ? 0 : 1);
        }
        return x;
    }

    private static ValuesGo failed() {
        ValuesGo x = check.with("a<b");
        x.run();
        x.level();
        x.tell(2, 7);
        x.image();
        x.tell(1, 1);
        check.due("failed", x.count(8), 1);
        return x;
    }

    private static ValuesGo waiting() {
        ValuesGo x = check.with("a<b", "b<c");
        x.run();
        x.level();
        x.tell(1, 28);
        check.due("rules to run", x.count(4), 2);
        return x;
    }

    private static ValuesGo eightLevels() {
        ValuesGo x = check.with("a<b");
        x.run();
        for (int i = 0; i < 8; i++) {
            check.due("level()", x.level(), i + 1);
            check.due("tell() of all but " + i, x.tell(7, 1023 & ~(1 << i)), 1);
        }
        return x;
    }

    // ---- promise 7

    private static void tellNumbers() {
        check.says(7, "BAD: VARIABLE, set (0 .. 1023);");
        ValuesGo x = new ValuesGo();
        int[] variables = {-1, 8, 9, MOST, LEAST};
        for (int v : variables) {
            check.due("tell(" + v + ", 1)", x.tell(v, 1), ValuesGo.BAD);
        }
        int[] sets = {-1, 1024, 1025, 2047, MOST, LEAST};
        for (int set : sets) {
            check.due("tell(0, " + set + ")", x.tell(0, set), ValuesGo.BAD);
        }
        check.due("count(2)", x.count(2), 0);
        check.due("tell(0, 1023)", x.tell(0, 1023), 0);
        check.due("tell(7, 1023)", x.tell(7, 1023), 0);
        check.due("tell(7, 1)", x.tell(7, 1), 9);
        check.due("tell(0, 512)", x.tell(0, 512), 9);
        check.due("tell(1, 0)", x.tell(1, 0), 10);
    }

    private static void tellTwelve() {
        check.says(0, "DECISIONS (12 at most, numbered as they come)");
        ValuesGo x = new ValuesGo();
        for (int i = 0; i < 11; i++) {
            x.tell(0, 1023);
        }
        check.due("tell(), the twelfth", x.tell(7, 1022), 1);
        check.due("its number", x.trail(0, 1), 111);
        check.due("tell(), the thirteenth", x.tell(6, 1), ValuesGo.FULL);
        check.due("tell(), by which none would go", x.tell(6, 1023), ValuesGo.FULL);
        check.due("count(2)", x.count(2), 12);
        check.due("domain(6)", x.domain(6), 1023);
    }

    private static void tellInOrder() {
        check.says(7, "BAD: VARIABLE, set (0 .. 1023); STATE: all is FAILED; FULL: 12.");
        ValuesGo x = twelve();
        check.due("a set ahead of FULL", x.tell(0, 1024), ValuesGo.BAD);
        check.due("a VARIABLE ahead of FULL", x.tell(8, 1), ValuesGo.BAD);
        check.due("FULL", x.tell(0, 1), ValuesGo.FULL);
        ValuesGo y = new ValuesGo();
        for (int i = 0; i < 12; i++) {
            y.tell(0, i < 11 ? 1023 : 0);
        }
        check.due("failed by the twelfth", y.count(8), 1);
        check.due("STATE ahead of FULL", y.tell(0, 1), ValuesGo.STATE);
        check.due("a VARIABLE ahead of STATE", y.tell(-1, 1), ValuesGo.BAD);
        check.due("a set ahead of STATE", y.tell(0, -1), ValuesGo.BAD);
    }

    private static void tellRefusedChangesNothing() {
        check.says(0, "Refusals, the first that the call's words name; they change nothing:");
        check.changesNothing("tell(8, 0)", EdgeGoingTest::waiting, x -> x.tell(8, 0), ValuesGo.BAD);
        check.changesNothing("tell(-1, 0)", EdgeGoingTest::waiting, x -> x.tell(-1, 0), ValuesGo.BAD);
        check.changesNothing("tell(1, 1024)", EdgeGoingTest::waiting, x -> x.tell(1, 1024), ValuesGo.BAD);
        check.changesNothing("tell(1, -1)", EdgeGoingTest::waiting, x -> x.tell(1, -1), ValuesGo.BAD);
        check.changesNothing("tell(0, 1) where all is failed", EdgeGoingTest::failed, x -> x.tell(0, 1), ValuesGo.STATE);
        check.changesNothing("tell(0, 1), the thirteenth", EdgeGoingTest::twelve, x -> x.tell(0, 1), ValuesGo.FULL);
    }

    private static void tellByWhichNoneGoes() {
        check.says(0, "RULES with its VARIABLE come to THE QUEUE, if one went (FAILED: as above).");
        ValuesGo x = check.with("a<b");
        x.run();
        check.due("tell(0, 1023)", x.tell(0, 1023), 0);
        check.due("tell(0, 511), as 9 is gone", x.tell(0, 511), 0);
        check.due("count(4)", x.count(4), 0);
        check.due("count(2)", x.count(2), 2);
        check.due("tell(0, 255)", x.tell(0, 255), 1);
        check.due("count(4)", x.count(4), 1);
        check.due("tell(2, 1), of no rule", x.tell(2, 1), 9);
        check.due("count(4)", x.count(4), 1);
    }

    private static void tellByWhichAllGo() {
        check.says(0, "FAILED is all, once a DOMAIN is empty: nothing more GOES by that RULE, THE QUEUE is empty then.");
        ValuesGo x = check.with("a<b", "c<d", "e<f");
        check.due("tell(0, 0)", x.tell(0, 0), 10);
        check.due("domain(0)", x.domain(0), 0);
        check.due("count(8)", x.count(8), 1);
        check.due("count(4)", x.count(4), 0);
        check.due("count(2): it is a DECISION", x.count(2), 1);
        check.due("decision(0, 1)", x.decision(0, 1), 0);
        check.due("trail(9, 0)", x.trail(9, 0), 9);
        check.due("trail(9, 1)", x.trail(9, 1), 100);
    }

    // ---- promises 8 and 9

    private static void stepOfNone() {
        check.says(8, "NONE: THE QUEUE is empty.");
        ValuesGo x = new ValuesGo();
        check.due("step() of no rules", x.step(), ValuesGo.NONE);
        check.due("count(5)", x.count(5), 0);
        check.changesNothing("step() where all is failed", EdgeGoingTest::failed, ValuesGo::step, ValuesGo.NONE);
        check.changesNothing("step() where all have run", EdgeGoingTest::twelve, ValuesGo::step, ValuesGo.NONE);
    }

    private static void stepOfAFullQueue() {
        check.says(0, "of THE QUEUE that of the least PRIORITY, of like ones the first, leaves it and is PRUNED;");
        ValuesGo x = new ValuesGo();
        for (int i = 0; i < 16; i++) {
            // From the greatest to the least: 5 5 5 4 4 4 3 3 3 2 2 2 1 1 1 0.
            String[] texts = {"distinct a b c", "distinct a b", "a+b+c<99", "a+b<99", "a<99", "1<2"};
            Check.rule(x, texts[i / 3]);
        }
        int[] due = {15, 12, 13, 14, 9, 10, 11, 6, 7, 8, 3, 4, 5, 0, 1, 2};
        for (int i = 0; i < 16; i++) {
            check.due("rules to run", x.count(4), 16 - i);
            check.due("step() " + i, x.step(), due[i]);
        }
        check.due("step() 16", x.step(), ValuesGo.NONE);
        check.due("count(5)", x.count(5), 16);
        check.due("count(1)", x.count(1), 0);
    }

    private static void stepOfLikePriority() {
        check.says(0, "of like ones the first,");
        ValuesGo x = check.with("a<b", "c<d", "e<f");
        x.run();
        x.tell(4, 7);
        x.tell(0, 7);
        x.tell(2, 7);
        check.due("told last but the first by number", x.step(), 0);
        check.due("the next", x.step(), 1);
        check.due("the last", x.step(), 2);
    }

    private static void runOfNone() {
        check.says(9, "RUNNING: how many RUNS.");
        ValuesGo x = new ValuesGo();
        check.due("run() of no rules", x.run(), 0);
        check.changesNothing("run() where all is failed", EdgeGoingTest::failed, ValuesGo::run, 0);
        check.changesNothing("run() where all have run", EdgeGoingTest::twelve, ValuesGo::run, 0);
        ValuesGo y = check.with("1<2");
        check.due("run() of one that does nothing", y.run(), 1);
        check.due("run() again", y.run(), 0);
        check.due("count(5)", y.count(5), 1);
    }

    private static void runThatFails() {
        check.says(0, "RUNNING: RUNS, till THE QUEUE is empty.");
        ValuesGo x = check.with("a<5", "a>4", "b<5", "c<d");
        check.due("run(): the one by which all is failed is counted", x.run(), 2);
        check.due("count(4)", x.count(4), 0);
        check.due("count(5)", x.count(5), 2);
        check.due("domain(0)", x.domain(0), 0);
        check.due("domain(1)", x.domain(1), 1023);
    }

    private static void pruningFailsWithinARule() {
        check.says(0, "nothing more GOES by that RULE, THE QUEUE is empty then.");
        ValuesGo x = check.with("c+b+h>99", "a<1");
        check.due("run(): the second has the least PRIORITY", x.step(), 1);
        check.due("step()", x.step(), 0);
        check.due("the first VARIABLE by numbers is b", x.domain(1), 0);
        check.due("domain(2)", x.domain(2), 1023);
        check.due("domain(7)", x.domain(7), 1023);
        check.due("count(1)", x.count(1), 19);
        check.due("trail(9, 0)", x.trail(9, 0), 10);
        check.due("trail(18, 0)", x.trail(18, 0), 19);
    }

    private static void pruningByDomainsAsTheyWere() {
        check.says(0, "all its VARIABLES having VALUES of their DOMAINS (as these are when PRUNING begins); by VARIABLES, then "
            + "VALUES.");
        ValuesGo x = check.with("h>a+b");
        x.tell(7, 15);
        x.run();
        // a and b to 2, h from 1 on.
        check.due("domain(0)", x.domain(0), 7);
        check.due("domain(1)", x.domain(1), 7);
        check.due("domain(7)", x.domain(7), 14);
        int[] due = {74, 75, 76, 77, 78, 79, 3, 4, 5, 6, 7, 8, 9, 13, 14, 15, 16, 17, 18, 19, 70};
        check.due("count(1)", x.count(1), due.length);
        for (int i = 0; i < due.length; i++) {
            check.due("trail(" + i + ", 0)", x.trail(i, 0), due[i]);
            check.due("trail(" + i + ", 1)", x.trail(i, 1), i < 6 ? 100 : 0);
        }
    }

    // ---- promises 10 and 11

    private static void levelEight() {
        check.says(0, "LEVELS (8 at most)");
        ValuesGo x = eightLevels();
        check.due("count(3)", x.count(3), 8);
        check.due("level(), the ninth", x.level(), ValuesGo.FULL);
        check.due("count(3)", x.count(3), 8);
        check.due("undo()", x.undo(), 1);
        check.due("level() where there is room again", x.level(), 8);
        check.due("level(), the ninth", x.level(), ValuesGo.FULL);
    }

    private static void levelInOrder() {
        check.says(10, "STATE: all is FAILED, THE QUEUE isn't empty; FULL: 8.");
        ValuesGo x = eightLevels();
        check.due("FULL", x.level(), ValuesGo.FULL);
        x.tell(0, 7);
        check.due("a rule to run is ahead of FULL", x.level(), ValuesGo.STATE);
        x.run();
        check.due("FULL", x.level(), ValuesGo.FULL);
        x.tell(7, 1);
        check.due("count(8)", x.count(8), 1);
        check.due("all that is FAILED is ahead of FULL", x.level(), ValuesGo.STATE);
        ValuesGo y = check.with("1<2");
        check.due("a rule to run that does nothing", y.level(), ValuesGo.STATE);
        y.step();
        check.due("none to run", y.level(), 1);
    }

    private static void levelRefusedChangesNothing() {
        check.says(0, "they change nothing:");
        check.changesNothing("level() with rules to run", EdgeGoingTest::waiting, ValuesGo::level, ValuesGo.STATE);
        check.changesNothing("level() where all is failed", EdgeGoingTest::failed, ValuesGo::level, ValuesGo.STATE);
        check.changesNothing("level(), the ninth", EdgeGoingTest::eightLevels, ValuesGo::level, ValuesGo.FULL);
    }

    private static void undoOfNone() {
        check.says(11, "STATE: there is none.");
        check.changesNothing("undo() of a new object", ValuesGo::new, ValuesGo::undo, ValuesGo.STATE);
        check.changesNothing("undo() with rules to run", () -> {
            ValuesGo x = check.with("a<b");
            x.tell(0, 7);
            return x;
        }, ValuesGo::undo, ValuesGo.STATE);
        check.changesNothing("undo() where all is failed", () -> {
            ValuesGo x = check.with("a<b");
            x.tell(0, 0);
            return x;
        }, ValuesGo::undo, ValuesGo.STATE);
    }

    private static void undoEight() {
        check.says(11, "The latest LEVEL is TAKEN BACK: how many VALUES are there again. STATE: there is none.");
        ValuesGo x = eightLevels();
        for (int i = 7; i >= 0; i--) {
            check.due("domain(7)", x.domain(7), 1023 & -(2 << i));
            check.due("count(2)", x.count(2), i + 1);
            check.due("undo()", x.undo(), 1);
            check.due("count(3)", x.count(3), i);
        }
        check.due("domain(7)", x.domain(7), 1023);
        check.due("domain(0) from ahead of the first", x.domain(0), 511);
        check.due("undo(), the ninth", x.undo(), ValuesGo.STATE);
    }

    private static void undoOfNothingGone() {
        check.says(11, "how many VALUES are there again.");
        ValuesGo x = check.with("a<b");
        x.run();
        x.level();
        check.due("undo() at once", x.undo(), 0);
        check.due("count(1)", x.count(1), 2);
        x.level();
        x.tell(7, 1023);
        check.due("undo() of a DECISION by which none went", x.undo(), 0);
        check.due("count(2)", x.count(2), 0);
    }

    private static void undoOfDecisions() {
        check.says(0, "DECISIONS that came since are gone;");
        ValuesGo x = twelve();
        check.due("tell(), the thirteenth", x.tell(0, 1), ValuesGo.FULL);
        check.due("undo()", x.undo(), 9);
        check.due("count(2)", x.count(2), 0);
        check.due("decision(0, 0)", x.decision(0, 0), -12);
        check.due("tell() where there is room again", x.tell(0, 1), 8);
        check.due("its number", x.trail(2, 1), 100);
    }

    private static void undoOfAFullTrail() {
        check.says(0, "THE QUEUE is empty, but for RULES that came since, nothing is FAILED.");
        ValuesGo x = new ValuesGo();
        x.level();
        for (int v = 0; v < 8; v++) {
            x.tell(v, v < 7 ? 512 : 0);
        }
        check.due("count(1)", x.count(1), 73);
        check.due("count(8)", x.count(8), 1);
        check.due("undo()", x.undo(), 73);
        check.due("count(1)", x.count(1), 0);
        check.due("count(8)", x.count(8), 0);
        for (int v = 0; v < 8; v++) {
            check.due("domain(" + v + ")", x.domain(v), 1023);
        }
        check.due("level()", x.level(), 1);
    }

    private static void undoEmptiesTheQueue() {
        check.says(0, "THE QUEUE is empty, but for RULES that came since,");
        ValuesGo x = waiting();
        check.due("undo() of one by which rules came to the queue", x.undo(), 5);
        check.due("count(4)", x.count(4), 0);
        check.due("level()", x.level(), 1);
    }

    private static void undoQueuesRulesThatCame() {
        check.says(0, "THE QUEUE is empty, but for RULES that came since,");
        ValuesGo x = new ValuesGo();
        x.level();
        for (int i = 0; i < 16; i++) {
            check.due("rule()", Check.rule(x, "a<b"), i);
        }
        x.run();
        check.due("undo(): all 16 came since", x.undo(), 2);
        check.due("count(4)", x.count(4), 16);
        check.due("count(0)", x.count(0), 16);
        check.due("run(): each but once, as all wait already", x.run(), 16);
        check.due("domain(0)", x.domain(0), 511);
        x.level();
        check.due("undo(): none came since", x.undo(), 0);
        check.due("count(4)", x.count(4), 0);
    }

    private static void undoTheLastFirst() {
        check.says(0, "TAKEN BACK is the latest: VALUES that went since are in their DOMAINS again, the last of THE TRAIL first;");
        ValuesGo x = new ValuesGo();
        x.tell(0, 1022);
        x.level();
        x.tell(0, 1020);
        x.level();
        x.tell(0, 1016);
        check.due("undo()", x.undo(), 1);
        check.due("domain(0)", x.domain(0), 1020);
        check.due("trail(0, 1002): there again", x.trail(0, 1002), ValuesGo.NONE);
        check.due("trail(0, 1001)", x.trail(0, 1001), 1);
        check.due("undo()", x.undo(), 1);
        check.due("domain(0)", x.domain(0), 1022);
        check.due("trail(0, 1000)", x.trail(0, 1000), 0);
        check.due("undo(), but no LEVEL was ahead", x.undo(), ValuesGo.STATE);
        check.due("domain(0)", x.domain(0), 1022);
    }

    // ---- promises 12 to 14

    private static void domainNumbers() {
        check.says(12, "DOMAIN of a VARIABLE (bits). BAD.");
        ValuesGo x = new ValuesGo();
        int[] wrong = {-1, 8, 9, MOST, LEAST};
        for (int v : wrong) {
            check.due("domain(" + v + ")", x.domain(v), ValuesGo.BAD);
        }
        x.tell(0, 1);
        x.tell(7, 512);
        check.due("domain(0)", x.domain(0), 1);
        check.due("domain(7)", x.domain(7), 512);
        x.tell(3, 0);
        check.due("domain(3), which is empty", x.domain(3), 0);
    }

    private static void trailEmpty() {
        check.says(13, "BAD: what; -12.");
        ValuesGo x = new ValuesGo();
        check.due("trail(0, 0)", x.trail(0, 0), -12);
        check.due("trail(0, 1)", x.trail(0, 1), -12);
        check.due("trail(-1, 0)", x.trail(-1, 0), -12);
        check.due("trail(0, 2)", x.trail(0, 2), ValuesGo.BAD);
    }

    private static void trailNumbers() {
        check.says(13, "Item i of THE TRAIL: 10 times the VARIABLE and the VALUE (what 0), its REASON (1);");
        ValuesGo x = new ValuesGo();
        x.tell(7, 1020);
        int[] what = {-1, 2, 10, 999, 1080, 2000, MOST, LEAST};
        for (int w : what) {
            check.due("trail(0, " + w + ")", x.trail(0, w), ValuesGo.BAD);
            check.due("what ahead of the place: trail(2, " + w + ")", x.trail(2, w), ValuesGo.BAD);
        }
        int[] places = {-1, 2, 79, 80, MOST, LEAST};
        for (int i : places) {
            check.due("trail(" + i + ", 0)", x.trail(i, 0), -12);
            check.due("trail(" + i + ", 1)", x.trail(i, 1), -12);
        }
        check.due("trail(0, 0)", x.trail(0, 0), 70);
        check.due("trail(1, 0)", x.trail(1, 0), 71);
        check.due("trail(1, 1)", x.trail(1, 1), 100);
    }

    private static void trailFull() {
        check.says(0, "A VALUE that GOES comes to THE TRAIL, with its REASON: a RULE, or 100 more than a DECISION.");
        ValuesGo x = new ValuesGo();
        for (int v = 0; v < 8; v++) {
            x.tell(v, 1);
        }
        check.due("all but one of each", x.count(1), 72);
        check.due("trail(71, 0)", x.trail(71, 0), 79);
        check.due("trail(71, 1)", x.trail(71, 1), 107);
        check.due("trail(72, 0)", x.trail(72, 0), -12);
        check.due("trail(0, 1079)", x.trail(0, 1079), 71);
        x.tell(4, 2);
        check.due("one more, by which all is failed", x.count(1), 73);
        check.due("trail(72, 0)", x.trail(72, 0), 40);
        check.due("trail(72, 1)", x.trail(72, 1), 108);
        check.due("trail(73, 0)", x.trail(73, 0), -12);
    }

    private static void trailOfValues() {
        check.says(13, "of a VALUE (what 10 times the VARIABLE and the VALUE, 1000 more): i doesn't matter: its place in THE "
            + "TRAIL; NONE: it is there.");
        ValuesGo x = new ValuesGo();
        x.tell(7, 511);
        x.tell(0, 1022);
        int[] any = {0, -1, 2, MOST, LEAST};
        for (int i : any) {
            check.due("trail(" + i + ", 1079)", x.trail(i, 1079), 0);
            check.due("trail(" + i + ", 1000)", x.trail(i, 1000), 1);
            check.due("trail(" + i + ", 1078)", x.trail(i, 1078), ValuesGo.NONE);
            check.due("trail(" + i + ", 1001)", x.trail(i, 1001), ValuesGo.NONE);
            check.due("trail(" + i + ", 999)", x.trail(i, 999), ValuesGo.BAD);
            check.due("trail(" + i + ", 1080)", x.trail(i, 1080), ValuesGo.BAD);
        }
    }

    private static void trailOfReasons() {
        check.says(0, "with its REASON: a RULE, or 100 more than a DECISION.");
        ValuesGo x = new ValuesGo();
        for (int i = 0; i < 15; i++) {
            Check.rule(x, "1<2");
        }
        Check.rule(x, "a<9");
        x.run();
        for (int i = 0; i < 12; i++) {
            x.tell(7, i < 11 ? 1023 : 1022);
        }
        check.due("the last of 16 RULES", x.trail(0, 1), 15);
        check.due("told(15, 6)", x.told(15, 6), 1);
        check.due("the last of 12 DECISIONS", x.trail(1, 1), 111);
    }

    private static void decisionNumbers() {
        check.says(14, "DECISION i: its VARIABLE (what 0), its set (1). BAD: what; -12.");
        ValuesGo x = new ValuesGo();
        int[] what = {-1, 2, 1000, MOST, LEAST};
        for (int w : what) {
            check.due("decision(0, " + w + ") of none", x.decision(0, w), ValuesGo.BAD);
        }
        check.due("decision(0, 0) of none", x.decision(0, 0), -12);
        check.due("decision(-1, 1) of none", x.decision(-1, 1), -12);
        for (int i = 0; i < 12; i++) {
            x.tell(i % 8, 1023 - i);
        }
        check.due("decision(11, 0)", x.decision(11, 0), 3);
        check.due("decision(11, 1)", x.decision(11, 1), 1012);
        check.due("decision(0, 1)", x.decision(0, 1), 1023);
        int[] places = {-1, 12, 13, MOST, LEAST};
        for (int i : places) {
            check.due("decision(" + i + ", 0)", x.decision(i, 0), -12);
            check.due("decision(" + i + ", 1)", x.decision(i, 1), -12);
            check.due("what ahead of the place", x.decision(i, 2), ValuesGo.BAD);
        }
    }

    private static void decisionsNumberedAsTheyCome() {
        check.says(0, "DECISIONS (12 at most, numbered as they come) are a VARIABLE and a set of VALUES each.");
        ValuesGo x = new ValuesGo();
        check.due("tell(8, 1)", x.tell(8, 1), ValuesGo.BAD);
        x.tell(7, 0b1010);
        check.due("tell(0, 1024)", x.tell(0, 1024), ValuesGo.BAD);
        x.tell(7, 0b0110);
        check.due("decision(0, 1)", x.decision(0, 1), 0b1010);
        check.due("decision(1, 1) is as it was told", x.decision(1, 1), 0b0110);
        check.due("domain(7) is what both leave", x.domain(7), 0b0010);
        check.due("decision(2, 0): what was refused is none", x.decision(2, 0), -12);
    }

    private static void askedInVain() {
        check.says(0, "-12 a place outside,");
        check.changesNothing("domain(8)", EdgeGoingTest::waiting, x -> x.domain(8), ValuesGo.BAD);
        check.changesNothing("trail(99, 0)", EdgeGoingTest::waiting, x -> x.trail(99, 0), -12);
        check.changesNothing("trail(0, 1080)", EdgeGoingTest::waiting, x -> x.trail(0, 1080), ValuesGo.BAD);
        check.changesNothing("decision(99, 0)", EdgeGoingTest::waiting, x -> x.decision(99, 0), -12);
        check.changesNothing("decision(0, 2)", EdgeGoingTest::waiting, x -> x.decision(0, 2), ValuesGo.BAD);
        check.changesNothing("why(8, 0)", EdgeGoingTest::waiting, x -> x.why(8, 0), ValuesGo.BAD);
        check.changesNothing("why(0, 10)", EdgeGoingTest::waiting, x -> x.why(0, 10), ValuesGo.BAD);
        check.changesNothing("why(2, 2)", EdgeGoingTest::waiting, x -> x.why(2, 2), 1);
        check.changesNothing("why(-1, 0)", EdgeGoingTest::failed, x -> x.why(-1, 0), 2);
        check.changesNothing("mixed(1, 8)", EdgeGoingTest::waiting, x -> x.mixed(1, 8), ValuesGo.BAD);
        check.changesNothing("mixed(1, 0)", EdgeGoingTest::waiting, x -> x.mixed(1, 0), 15);
        check.changesNothing("mixed(1, 0)", EdgeGoingTest::failed, x -> x.mixed(1, 0), ValuesGo.NONE);
    }

    // ---- promises 15 and 16

    private static void whyNumbers() {
        check.says(15, "of a failure (variable -1: value doesn't matter). BAD.");
        ValuesGo x = check.with("a<0");
        int[] variables = {-2, 8, MOST, LEAST};
        for (int v : variables) {
            check.due("why(" + v + ", 0)", x.why(v, 0), ValuesGo.BAD);
        }
        int[] values = {-1, 10, MOST, LEAST};
        for (int value : values) {
            check.due("why(0, " + value + ")", x.why(0, value), ValuesGo.BAD);
            check.due("why(7, " + value + ")", x.why(7, value), ValuesGo.BAD);
            check.due("why(-1, " + value + ")", x.why(-1, value), 0);
        }
        check.due("why(0, 0)", x.why(0, 0), 0);
        check.due("why(7, 9)", x.why(7, 9), 0);
    }

    private static void whyNone() {
        check.says(0, "(NONE: it doesn't go with all of them.)");
        ValuesGo x = check.with("a<b");
        x.tell(0, 510);
        check.due("why(0, 1): it is there", x.why(0, 1), ValuesGo.NONE);
        check.due("why(0, 8): it is there", x.why(0, 8), ValuesGo.NONE);
        check.due("why(-1, 0): nothing fails", x.why(-1, 0), ValuesGo.NONE);
        check.due("why(0, 0)", x.why(0, 0), 1);
        check.due("why(1, 1)", x.why(1, 1), 1);
        check.due("why(7, 0): of no rule", x.why(7, 0), ValuesGo.NONE);
    }

    private static void whyByNone() {
        check.says(0, "those left.");
        ValuesGo x = check.with("a<b");
        check.due("why(0, 9) without DECISIONS", x.why(0, 9), 0);
        x.tell(0, 1);
        check.due("why(0, 9): by the RULE alone", x.why(0, 9), 0);
        check.due("why(0, 8): by the DECISION", x.why(0, 8), 1);
        ValuesGo y = check.with("a<0");
        y.tell(1, 1);
        check.due("why(-1, 0): failed without DECISIONS", y.why(-1, 0), 0);
    }

    private static void whyOfTwelve() {
        check.says(15, "WHY of a VALUE (bits; NONE); of a failure");
        ValuesGo x = check.with("c:a>5", "d:b>5", "c+d<2");
        for (int i = 0; i < 12; i++) {
            x.tell(i / 6, 1023 & ~(1 << i % 6));
        }
        check.due("all twelve are needed", x.why(-1, 0), 4095);
        check.due("one alone suffices", x.why(1, 5), 2048);
        check.due("one alone suffices", x.why(0, 0), 1);
        check.due("the first six: c is 1", x.why(2, 0), 63);
        check.due("the last six: d is 1", x.why(3, 0), 4032);
        check.due("a's 6: by the last six, as c is 0 then", x.why(0, 6), 4032);
    }

    private static void whyFromTheFirstOn() {
        check.says(0, "of all of them one behind another, from the first on, is left out,");
        ValuesGo x = new ValuesGo();
        for (int i = 0; i < 12; i++) {
            x.tell(0, 1022);
        }
        check.due("the last of twelve alike is left", x.why(0, 0), 2048);
        ValuesGo y = check.with("a<b");
        y.tell(0, 1020);
        y.tell(2, 1);
        y.tell(0, 1008);
        check.due("both do for b's 2, the last is left", y.why(1, 2), 4);
        check.due("b's 4 goes by the last alone", y.why(1, 4), 4);
    }

    private static void whyWhereAllIsFailed() {
        check.says(0, "if FROM START with all that are left the VALUE still GOES or all is FAILED; those left.");
        ValuesGo x = check.with("a<b");
        x.tell(2, 7);
        x.tell(0, 1008);
        x.tell(1, 31);
        x.run();
        check.due("count(8)", x.count(8), 1);
        check.due("both that fail", x.why(-1, 0), 6);
        check.due("c's 5 goes by its own DECISION or by the failure: the last ones are left", x.why(2, 5), 6);
        check.due("b's 2: by a's DECISION, or by b's own with the failure", x.why(1, 2), 2);
        check.due("b's 5: by its own", x.why(1, 5), 4);
    }

    private static void mixedNumbers() {
        check.says(16, "MIXED: DOMAIN of a VARIABLE; NONE: all is FAILED. BAD.");
        ValuesGo x = check.with("h<9");
        int[] wrong = {-1, 8, MOST, LEAST};
        for (int v : wrong) {
            check.due("mixed(0, " + v + ")", x.mixed(0, v), ValuesGo.BAD);
        }
        check.due("mixed(0, 7)", x.mixed(0, 7), 511);
        check.due("mixed(0, 0)", x.mixed(0, 0), 1023);
        check.due("mixed() of no rules", new ValuesGo().mixed(0, 7), 1023);
    }

    private static void mixedOfFailure() {
        check.says(16, "NONE: all is FAILED.");
        ValuesGo x = check.with("a<0", "b<1");
        check.due("count(8): nothing ran", x.count(8), 0);
        check.due("mixed(3, 1), failed FROM START", x.mixed(3, 1), ValuesGo.NONE);
        check.due("mixed(3, 8): BAD ahead of it", x.mixed(3, 8), ValuesGo.BAD);
        ValuesGo y = check.with("b<1");
        y.tell(7, 0);
        check.due("mixed(3, 1), failed by a DECISION", y.mixed(3, 1), ValuesGo.NONE);
    }

    private static void mixedSeeds() {
        check.says(0, "z being z * 1103515245 + 12345 (an int; SEED at first) anew for each.");
        ValuesGo x = new ValuesGo();
        String[] texts = {"a<b", "b<c", "c<d", "d<e", "e<f", "f<g", "g<h", "distinct a b h", "h:a<b"};
        for (int i = 0; i < 8; i++) {
            check.due("rule()", Check.rule(x, texts[i]), i);
        }
        int[] seeds = {0, 1, -1, MOST, LEAST, 511, 512, -512, 12345, -12345, 1103515245};
        for (int seed : seeds) {
            for (int v = 0; v < 8; v++) {
                // Eight in a row, so each has but three VALUES.
                check.due("mixed(" + seed + ", " + v + ")", x.mixed(seed, v), 7 << v);
            }
        }
        check.due("rule()", Check.rule(x, texts[8]), 8);
        for (int seed : seeds) {
            check.due("mixed(" + seed + ", 7), as h is to be 0 or 1", x.mixed(seed, 7), ValuesGo.NONE);
        }
    }
}
