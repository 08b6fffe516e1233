/** Promises 7 to 16: tell, step, run, level, undo, domain, trail, decision, why, mixed. */
public final class GoingTest {
    private static final Check check = new Check();

    public static void main(String[] args) {
        tell();
        tellRefusals();
        tellThatFails();
        step();
        stepByPriority();
        stepOfLikeOnes();
        stepThatFails();
        run();
        level();
        undo();
        undoKeepsRules();
        undoOfFailure();
        domain();
        trail();
        decision();
        why();
        whyOfFailure();
        whyIsRead();
        mixed();
        check.close();
    }

    private static void trailIs(ValuesGo x, int... due) {
        check.due("values in the trail", x.count(1), due.length);
        for (int i = 0; i < due.length; i++) {
            check.due("trail(" + i + ", 0)", x.trail(i, 0), due[i]);
        }
    }

    private static void tell() {
        ValuesGo x = check.with("a<b", "c<d");
        x.run();
        int runs = x.count(5);
        check.due("tell(0, 1023)", x.tell(0, 1023), 0);
        check.due("the queue when none went", x.count(4), 0);
        check.due("tell(0, 0b111): 3 to 8 go, 9 is gone", x.tell(0, 7), 6);
        check.due("a<b is to run", x.told(0, 3), 1);
        check.due("c<d is not", x.told(1, 3), 0);
        check.due("domain(0)", x.domain(0), 7);
        check.due("nothing ran", x.count(5), runs);
        check.due("tell(0, 12): none of it but 2 is there", x.tell(0, 12), 2);
        check.due("domain(0)", x.domain(0), 4);
        check.due("tell(4, 512)", x.tell(4, 512), 9);
        check.due("domain(4)", x.domain(4), 512);
        check.due("decisions", x.count(2), 4);
        check.due("the reason of the last is decision 3", x.trail(x.count(1) - 1, 1), 103);
    }

    private static void tellRefusals() {
        ValuesGo x = new ValuesGo();
        check.due("tell(-1, 0)", x.tell(-1, 0), ValuesGo.BAD);
        check.due("tell(8, 0)", x.tell(8, 0), ValuesGo.BAD);
        check.due("tell(0, -1)", x.tell(0, -1), ValuesGo.BAD);
        check.due("tell(0, 1024)", x.tell(0, 1024), ValuesGo.BAD);
        check.due("decisions", x.count(2), 0);
        for (int i = 0; i < 12; i++) {
            check.due("tell(7, 1023), number " + i, x.tell(7, 1023), 0);
        }
        check.due("tell(0, 1) with 12 there", x.tell(0, 1), ValuesGo.FULL);
        check.due("tell(8, 1) with 12 there", x.tell(8, 1), ValuesGo.BAD);
        check.due("domain(0) is as it was", x.domain(0), 1023);
        check.due("decisions", x.count(2), 12);
    }

    private static void tellThatFails() {
        ValuesGo x = check.with("a<b", "c<d");
        check.due("tell(2, 0)", x.tell(2, 0), 10);
        check.due("domain(2)", x.domain(2), 0);
        check.due("failed", x.count(8), 1);
        check.due("the queue is empty", x.count(4), 0);
        trailIs(x, 20, 21, 22, 23, 24, 25, 26, 27, 28, 29);
        check.due("tell(0, 1)", x.tell(0, 1), ValuesGo.STATE);
        check.due("tell(0, 1024)", x.tell(0, 1024), ValuesGo.BAD);
        check.due("decisions", x.count(2), 1);
        check.due("run()", x.run(), 0);
        check.due("step()", x.step(), ValuesGo.NONE);

        ValuesGo y = new ValuesGo();
        y.tell(0, 15);
        check.due("the 4 that are left go", y.tell(0, 1008), 4);
        check.due("failed by two that have nothing in common", y.count(8), 1);
    }

    private static void step() {
        ValuesGo x = check.with("a<b", "b<c");
        check.due("both are to run", x.count(4), 2);
        check.due("step()", x.step(), 0);
        trailIs(x, 9, 10);
        check.due("a<b has run, b<c waits already", x.count(4), 1);
        check.due("step()", x.step(), 1);
        trailIs(x, 9, 10, 19, 20, 21);
        check.due("a<b is to run again", x.told(0, 3), 1);
        check.due("b<c is not, though it took of b", x.told(1, 3), 0);
        check.due("step()", x.step(), 0);
        trailIs(x, 9, 10, 19, 20, 21, 8);
        check.due("b<c has no a", x.count(4), 0);
        check.due("step()", x.step(), ValuesGo.NONE);
        check.due("runs", x.count(5), 3);
        check.due("domain(0)", x.domain(0), 255);
        check.due("domain(1)", x.domain(1), 510);
        check.due("domain(2)", x.domain(2), 1020);
    }

    private static void stepByPriority() {
        ValuesGo x = check.with("distinct a b c", "d:a<b", "a+b<c", "a<b", "a<8", "1<2");
        int[] due = {5, 4, 3, 2, 3, 1, 0, -1};
        for (int i = 0; i < due.length; i++) {
            check.due("step() " + i, x.step(), due[i]);
        }
        // a: 8 9; b: 0; b: 9, c: 0 1; d: 2 to 9
        trailIs(x, 8, 9, 10, 19, 20, 21, 32, 33, 34, 35, 36, 37, 38, 39);
        // A distinct of two comes with a plain one of four and so behind one of three and a reified one of two.
        ValuesGo y = check.with("distinct a b", "c+d+e<30", "a:b<1", "distinct a b");
        int[] next = {1, 2, 0, 3};
        for (int i = 0; i < next.length; i++) {
            check.due("step() " + i, y.step(), next[i]);
            check.due("priority of " + next[i], y.told(next[i], 2), i == 0 || i == 1 ? 3 : 4);
        }
    }

    private static void stepOfLikeOnes() {
        ValuesGo x = check.with("a<b", "c<d", "b<c");
        check.due("step()", x.step(), 0);
        check.due("step()", x.step(), 1);
        check.due("b<c takes of both", x.step(), 2);
        check.due("both are to run again, the first by number", x.step(), 0);
        check.due("then the other", x.step(), 1);
    }

    private static void stepThatFails() {
        ValuesGo x = check.with("a<b", "a+b=30", "c<d");
        check.due("step()", x.step(), 0);
        int went = x.count(1);
        check.due("step()", x.step(), 1);
        check.due("a's nine values went, of b none", x.count(1), went + 9);
        check.due("domain(0)", x.domain(0), 0);
        check.due("domain(1)", x.domain(1), 1022);
        check.due("failed", x.count(8), 1);
        check.due("c<d is to run no more", x.count(4), 0);
        check.due("step()", x.step(), ValuesGo.NONE);

        ValuesGo y = check.with("2<1");
        check.due("a rule without variables runs", y.step(), 0);
        check.due("and nothing fails by it", y.count(8), 0);
    }

    private static void run() {
        ValuesGo x = new ValuesGo();
        check.due("run() of none", x.run(), 0);
        x = check.with("a<b", "b<c", "c<d");
        // 0: a9 b0. 1: b9 c0 c1, wakes 0 2. 0: a8. 2: c9 d0 d1 d2, wakes 1. 1: b8, wakes 0. 0: a7.
        check.due("run()", x.run(), 6);
        trailIs(x, 9, 10, 19, 20, 21, 8, 29, 30, 31, 32, 18, 7);
        check.due("runs ever", x.count(5), 6);
        check.due("run() again", x.run(), 0);
        x.tell(3, 8);
        check.due("run() behind a decision", x.run(), 3);
        for (int v = 0; v < 4; v++) {
            check.due("domain(" + v + ")", x.domain(v), 1 << v);
        }
        check.due("settled", x.count(6), 4);
        check.due("runs ever", x.count(5), 9);

        ValuesGo y = check.with("a:b<c", "b=1", "c=2");
        y.run();
        check.due("the test holds", y.domain(0), 2);
        ValuesGo z = check.with("a:b<c", "a=0", "b=1");
        z.run();
        check.due("the test doesn't hold", z.domain(2), 3);
    }

    private static void level() {
        ValuesGo x = check.with("a<b");
        check.due("level() with a rule to run", x.level(), ValuesGo.STATE);
        x.run();
        for (int i = 1; i <= 8; i++) {
            check.due("level() " + i, x.level(), i);
        }
        check.due("level() 9", x.level(), ValuesGo.FULL);
        check.due("levels", x.count(3), 8);
        x.tell(0, 1);
        check.due("level() with 8 there and a rule to run", x.level(), ValuesGo.STATE);
        x.run();
        x.tell(0, 0);
        check.due("level() when all is failed", x.level(), ValuesGo.STATE);
        check.due("levels", x.count(3), 8);
    }

    private static void undo() {
        ValuesGo x = check.with("a<b");
        x.tell(5, 1023);
        x.run();
        check.due("undo() without a level", x.undo(), ValuesGo.STATE);
        check.due("level()", x.level(), 1);
        x.tell(0, 1);
        check.due("level() with a rule to run", x.level(), ValuesGo.STATE);
        x.run();
        check.due("level()", x.level(), 2);
        check.due("tell(1, 2)", x.tell(1, 2), 8);
        check.due("a<b is to run", x.count(4), 1);
        int runs = x.count(5);
        check.due("undo()", x.undo(), 8);
        check.due("domain(1)", x.domain(1), 1022);
        check.due("decisions", x.count(2), 2);
        check.due("nothing is to run", x.count(4), 0);
        check.due("runs are not taken back", x.count(5), runs);
        check.due("levels", x.count(3), 1);
        check.due("undo()", x.undo(), 8);
        check.due("domain(0)", x.domain(0), 511);
        check.due("decisions", x.count(2), 1);
        trailIs(x, 9, 10);
        check.due("undo()", x.undo(), ValuesGo.STATE);
        check.due("tell() takes the number that is free again", x.tell(0, 1), 8);
        check.due("its reason", x.trail(2, 1), 101);
    }

    private static void undoKeepsRules() {
        ValuesGo x = check.with("a<9");
        x.run();
        x.level();
        check.due("rule()", Check.rule(x, "a<b"), 1);
        x.run();
        x.level();
        check.due("rule()", Check.rule(x, "b<c"), 2);
        x.run();
        check.due("undo(): what went by b<c and by a<b behind it", x.undo(), 4);
        check.due("rules", x.count(0), 3);
        check.due("only b<c came since", x.count(4), 1);
        check.due("b<c is to run though it had", x.told(2, 3), 1);
        check.due("undo(): what went by a<b", x.undo(), 1);
        check.due("a<b and b<c came since", x.count(4), 2);
        check.due("a<9 did not", x.told(0, 3), 0);
        check.due("domain(1)", x.domain(1), 1023);
        check.due("domain(0)", x.domain(0), 511);
        x.run();
        check.due("domain(0)", x.domain(0), 255);
    }

    private static void undoOfFailure() {
        ValuesGo x = check.with("a<b");
        x.run();
        x.level();
        x.tell(1, 3);
        x.tell(0, 6);
        x.run();
        check.due("failed", x.count(8), 1);
        x.undo();
        check.due("failed no more", x.count(8), 0);
        check.due("domain(0)", x.domain(0), 511);
        check.due("domain(1)", x.domain(1), 1022);
        check.due("decisions", x.count(2), 0);
    }

    private static void domain() {
        ValuesGo x = new ValuesGo();
        check.due("domain(-1)", x.domain(-1), ValuesGo.BAD);
        check.due("domain(8)", x.domain(8), ValuesGo.BAD);
        x.tell(7, 682);
        check.due("domain(7)", x.domain(7), 682);
        check.due("domain(6)", x.domain(6), 1023);
    }

    private static void trail() {
        ValuesGo x = check.with("h<g");
        x.tell(0, 1020);
        x.run();
        trailIs(x, 0, 1, 60, 79);
        check.due("trail(0, 1)", x.trail(0, 1), 100);
        check.due("trail(1, 1)", x.trail(1, 1), 100);
        check.due("trail(2, 1)", x.trail(2, 1), 0);
        check.due("trail(3, 1)", x.trail(3, 1), 0);
        check.due("trail(4, 0)", x.trail(4, 0), -12);
        check.due("trail(-1, 1)", x.trail(-1, 1), -12);
        check.due("trail(4, 2)", x.trail(4, 2), ValuesGo.BAD);
        check.due("trail(0, -1)", x.trail(0, -1), ValuesGo.BAD);
        check.due("trail(0, 999)", x.trail(0, 999), ValuesGo.BAD);
        check.due("trail(0, 1080)", x.trail(0, 1080), ValuesGo.BAD);
        check.due("trail(-7, 1000)", x.trail(-7, 1000), 0);
        check.due("trail(99, 1001)", x.trail(99, 1001), 1);
        check.due("trail(99, 1060)", x.trail(99, 1060), 2);
        check.due("trail(99, 1079)", x.trail(99, 1079), 3);
        check.due("trail(0, 1002)", x.trail(0, 1002), ValuesGo.NONE);
        check.due("trail(0, 1078)", x.trail(0, 1078), ValuesGo.NONE);
    }

    private static void decision() {
        ValuesGo x = new ValuesGo();
        check.due("decision(0, 0)", x.decision(0, 0), -12);
        x.tell(3, 1023);
        x.tell(7, 5);
        check.due("decision(0, 0)", x.decision(0, 0), 3);
        check.due("decision(0, 1)", x.decision(0, 1), 1023);
        check.due("decision(1, 0)", x.decision(1, 0), 7);
        check.due("decision(1, 1)", x.decision(1, 1), 5);
        check.due("decision(2, 0)", x.decision(2, 0), -12);
        check.due("decision(-1, 0)", x.decision(-1, 0), -12);
        check.due("decision(0, 2)", x.decision(0, 2), ValuesGo.BAD);
        check.due("decision(9, -1)", x.decision(9, -1), ValuesGo.BAD);
    }

    private static void why() {
        ValuesGo x = check.with("a<b", "b<c");
        x.tell(3, 5);
        x.tell(0, 1016);
        x.tell(1, 1008);
        x.tell(0, 992);
        // a is 5 to 9, b 4 to 9, all still to run
        check.due("c's 6 goes by decision 3, though nothing ran yet", x.why(2, 6), 8);
        check.due("c's 5 goes by decision 3 alone too", x.why(2, 5), 8);
        check.due("a's 0: the first is left out, as the last suffices", x.why(0, 0), 8);
        check.due("b's 3: as well by the last alone", x.why(1, 3), 8);
        check.due("a's 9 goes without any", x.why(0, 9), 0);
        check.due("d's 1", x.why(3, 1), 1);
        check.due("d's 2 is there", x.why(3, 2), ValuesGo.NONE);
        check.due("c's 7 is there", x.why(2, 7), ValuesGo.NONE);
        check.due("no failure", x.why(-1, 0), ValuesGo.NONE);
        check.due("why(-2, 0)", x.why(-2, 0), ValuesGo.BAD);
        check.due("why(8, 0)", x.why(8, 0), ValuesGo.BAD);
        check.due("why(0, 10)", x.why(0, 10), ValuesGo.BAD);
        check.due("why(0, -1)", x.why(0, -1), ValuesGo.BAD);
        check.due("nothing ran in truth", x.count(5), 0);
        check.due("domain(2)", x.domain(2), 1023);

        ValuesGo y = check.with("a+b=c");
        y.tell(0, 1008);
        y.tell(4, 1);
        y.tell(1, 1008);
        check.due("c's 7 goes by both together", y.why(2, 7), 5);
        check.due("c's 3 by the last alone", y.why(2, 3), 4);
    }

    private static void whyOfFailure() {
        ValuesGo x = check.with("a<b", "c<d");
        x.tell(0, 512);
        x.tell(2, 3);
        x.tell(1, 1);
        x.run();
        check.due("the first alone would do, the last alone too", x.why(-1, 99), 4);
        check.due("a value that can't go but by the failure", x.why(7, 0), 4);
        check.due("c's 5 went by decision 1, but all fails without it", x.why(2, 5), 4);
        check.due("d's 0 goes by a rule", x.why(3, 0), 0);

        ValuesGo y = check.with("a<b");
        y.tell(0, 32);
        y.tell(1, 1023);
        y.tell(1, 31);
        y.run();
        check.due("both that are needed", y.why(-1, 0), 5);
        check.due("the value matters not", y.why(-1, -9), 5);

        ValuesGo z = check.with("a+b=30");
        z.run();
        check.due("failed without a decision", z.why(-1, 0), 0);
    }

    private static void whyIsRead() {
        ValuesGo x = check.with("a<b");
        x.run();
        x.level();
        x.tell(0, 1008);
        x.run();
        check.due("b's 4 by decision 0", x.why(1, 4), 1);
        x.undo();
        check.due("b's 4 is there again", x.why(1, 4), ValuesGo.NONE);
        check.due("nothing was changed", x.count(1), 2);
    }

    private static void mixed() {
        ValuesGo x = check.with("a<b", "b<c", "distinct a c d", "e:a<d");
        x.tell(2, 31);
        x.tell(0, 1022);
        for (int seed = -3; seed < 40; seed += 3) {
            check.due("mixed(" + seed + ", 0)", x.mixed(seed, 0), 6);
            check.due("mixed(" + seed + ", 1)", x.mixed(seed, 1), 12);
            check.due("mixed(" + seed + ", 2)", x.mixed(seed, 2), 24);
            check.due("mixed(" + seed + ", 3)", x.mixed(seed, 3), 1023);
            check.due("mixed(" + seed + ", 4)", x.mixed(seed, 4), 3);
        }
        check.due("mixed(5, -1)", x.mixed(5, -1), ValuesGo.BAD);
        check.due("mixed(5, 8)", x.mixed(5, 8), ValuesGo.BAD);
        check.due("nothing ran in truth", x.count(5), 0);
        check.due("domain(0) in truth", x.domain(0), 1022);
        check.due("run() goes by priorities still", x.step(), 0);
        x.tell(2, 3);
        check.due("mixed() when it fails", x.mixed(Integer.MIN_VALUE, 4), ValuesGo.NONE);
    }
}
