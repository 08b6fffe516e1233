/** Promises 17 to 19: search, solutions, reach. */
public final class SolutionsTest {
    private static final Check check = new Check();

    public static void main(String[] args) {
        searchByChoices();
        searchByMostRules();
        searchTurnsBack();
        searchInThought();
        searchFailed();
        searchRefusals();
        searchDear();
        learning();
        learningByNone();
        learningStops();
        onlySearchLearns();
        solutions();
        solutionsDear();
        reach();
        reachDear();
        check.close();
    }

    private static void searchByChoices() {
        ValuesGo x = new ValuesGo();
        check.searches(x, 0, 0, 0, 0, 8, 0, 0);
        check.searches(x, 0, 1, 1, 99999999, 8, 0, 0);
        check.searches(x, 3, 2, 0, 55555555, 8, 0, 0);
        x.tell(0, 0b1101);
        x.tell(1, 0b11);
        x.tell(2, 0b10110);
        for (int v = 3; v < 8; v++) {
            x.tell(v, 16);
        }
        check.searches(x, 0, 0, 0, 1_44444, 3, 0, 0);
        check.searches(x, 0, 1, 0, 314_44444, 3, 0, 0);
        check.searches(x, 0, 2, 0, 212_44444, 3, 0, 0);
        check.due("rule()", Check.rule(x, "a=b+c"), 0);
        // a 0 2 3, b 0 1, c 1 2 4: first b is 0 or 1, a 2 or 3, c 1 or 2
        check.due("a first, least: 2 = 1 + 1 or 0 + 2, b least", x.search(0, 0, 0, 0), 202_44444);
        check.due("a first, greatest: 3 = 1 + 2", x.search(0, 1, 0, 0), 312_44444);
        check.due("one try settles it", x.search(0, 1, 0, 1), 1);

        ValuesGo y = check.told(new int[] {0b1111, 0b110, 0b1110}, "c>b");
        // b has 2, c (2, 3 behind b's 1 and 2) 2, a 4
        check.due("fewest: b, then c", y.search(1, 1, 0, 0), 323_00000);
        check.due("most: a, then b", y.search(2, 0, 0, 0), 12_00000);
        check.due("most: a, then b's greater, c is settled by it", y.search(2, 1, 0, 1), 2);
        check.due("most rules: b", y.search(3, 0, 0, 0), 12_00000);
    }

    private static void searchByMostRules() {
        // c is in three, b in two, a in two: c's greatest is 9, then by b and a.
        ValuesGo x = check.with("a+b=9", "b+c<12", "c+d<12", "c+a<14");
        for (int v = 3; v < 8; v++) {
            x.tell(v, 4);
        }
        // c 9: b 0 1 2, a 0 to 4, a+b=9 fails. c 8: b 0 to 3, a 0 to 5 fails. c 7: b to 4, a to 6: a 5 6, b 3 4.
        check.due("c 7, then a 6, b 3", x.search(3, 1, 0, 0), 637_22222);
        check.due("tries: 9, 8, 7 and a", x.search(3, 1, 0, 1), 4);
        check.due("failures: 9 and 8", x.search(3, 1, 0, 2), 2);
    }

    private static void searchTurnsBack() {
        ValuesGo x = check.with("a+b=9", "a-b=1");
        // a is tried with 1, 2, 3 and 4 and fails each time; then 5 is left; c to h are free.
        check.searches(x, 0, 0, 0, 54000000, 10, 4, 0);
        check.searches(x, 0, 0, 1, 54000000, 10, 4, 4);
        ValuesGo y = check.told(new int[] {3, 3, 3}, "a!b", "b!c", "a!c");
        check.searches(y, 0, 0, 0, -1, 1, 2, 0);
        check.searches(y, 0, 0, 1, -1, 1, 2, 1);
    }

    private static void searchInThought() {
        ValuesGo x = check.with("a+b=9", "a-b=1", "c<d");
        x.tell(4, 7);
        x.step();
        int[] before = new int[9];
        for (int what = 0; what < 9; what++) {
            before[what] = x.count(what);
        }
        x.search(0, 0, 1, 0);
        x.search(2, 2, 0, 0);
        x.solutions();
        x.reach(0, 0);
        for (int what = 0; what < 9; what++) {
            check.due("count(" + what + ") behind searches", x.count(what), before[what]);
        }
        check.due("domain(0)", x.domain(0), 1023);
        check.due("told(0, 3)", x.told(0, 3), 0);
        check.due("told(1, 3)", x.told(1, 3), 1);
        check.due("no rule was learned in truth", x.told(3, 0), ValuesGo.BAD);
        check.due("what is to run runs first, in thought", x.search(0, 0, 0, 0), 54010000);
    }

    private static void searchFailed() {
        ValuesGo x = check.with("a<b");
        x.tell(0, 0);
        check.searches(x, 0, 0, 1, -1, 0, 1, 0);
        ValuesGo y = check.with("a<a");
        check.searches(y, 0, 0, 1, -1, 0, 1, 0);
        check.due("not failed in truth, as nothing ran", y.count(8), 0);
        ValuesGo z = check.with("1<0");
        check.due("a rule without variables rules out nothing", z.search(0, 0, 0, 0), 0);
    }

    private static void searchRefusals() {
        ValuesGo x = new ValuesGo();
        int[][] wrong = {{-1, 0, 0, 0}, {4, 0, 0, 0}, {0, -1, 0, 0}, {0, 3, 0, 0}, {0, 0, -1, 0}, {0, 0, 2, 0}, {0, 0, 0, -1},
            {0, 0, 0, 4}};
        for (int[] w : wrong) {
            check.due("search(" + w[0] + ", " + w[1] + ", " + w[2] + ", " + w[3] + ")",
                x.search(w[0], w[1], w[2], w[3]), ValuesGo.BAD);
        }
    }

    private static void searchDear() {
        // Four rows of 20 tries; a 4, b 0 to 8, e nine times, and e with b 9.
        check.searches(check.hard(49), 0, 0, 0, 49000100, 100, 98, 0);
        check.searches(check.hard(50), 0, 0, 0, -6, -6, -6, -6);
        check.searches(check.hard(50), 0, 0, 1, -6, -6, -6, -6);
        check.due("by a's greatest it is at hand", check.hard(50).search(0, 1, 0, 0), 99001000);
    }

    private static void learning() {
        // c, d and e are unlike, with two values for three: a try of c fails, whatever a and b are.
        ValuesGo x = check.told(new int[] {3, 3, 3, 3, 3}, "c!d", "d!e", "c!e");
        // Tries a, b, c, c, b, c, c; all is failed behind each of c's and behind each turn of it.
        check.searches(x, 0, 0, 0, -1, 7, 8, 0);
        // What is learned each time is c's 0 alone; it comes to the queue behind its turn, and when c changes.
        check.searches(x, 0, 0, 1, -1, 7, 8, 4);

        // b 0 and c 0 can't be, which only a try of c shows; while a is 0, e and f are to be like and unlike.
        int[] sets = {3, 3, 7, 7, 3, 3, 1, 3};
        ValuesGo y = check.told(sets, "b+c=d", "c+d!0", "h:a=0", "e!f", "(e-f)*(e-f)*h=0");
        // With a 0: b 0, c 0 fails; c 1, e 0 fails, e 1 too; c 2 by the turn, e fails twice; b 1 by the turn, c 0, e
        // fails twice; c 1 by the turn, e fails twice. With a 1 by the turn: b 0, c 0 fails; c 1, e 0.
        check.searches(y, 0, 0, 0, 10110100, 13, 10, 0);
        // The last c 0 is spared, as a try of b wakes what was learned of b and c; e's four are all of a and e.
        check.searches(y, 0, 0, 1, 10110100, 12, 9, 5);
    }

    private static void learningByNone() {
        // With a 0, b is 0, as b 1 and b 2 can't be; with b 0, d and e are to be like and unlike.
        ValuesGo x = check.told(new int[] {513, 7, 1, 3, 3}, "b+a!2", "2*b+a!2", "d!e", "b>(d-e)*(d-e)-1");
        // By most values: b 0, a 0, d 0 fails, d 1 too; a 9 by the turn, d 0 fails, d 1 too; b 1 or 2 by the turn,
        // a 0 fails; a 9, b 1, d 0.
        check.searches(x, 2, 0, 0, 91001000, 7, 5, 0);
        // Learned: a 0 with d 0; b 0 with d 0; of the last failure none, as a 0 alone leads to b 0, not to it.
        check.searches(x, 2, 0, 1, 91001000, 7, 5, 2);
    }

    private static void learningStops() {
        // Each of thirty tries of e fails; of the first ten each teaches a 0 and e 0.
        check.searches(check.hard(30), 0, 0, 1, 30000100, 63, 60, 8);
        check.searches(check.hard(30), 0, 0, 0, 30000100, 63, 60, 0);
        ValuesGo x = check.hard(30);
        check.searches(x, 0, 0, 1, 30000100, 63, 60, 8);
        check.due("learned ones are gone at the end", x.search(0, 0, 1, 3), 8);
    }

    /**
     * As in learning(), with one value more for c: each a below 8 costs 13 tries, with learning each but the first 12;
     * a 8 comes by a turn and costs b 0, c 0, c 1 and e, with learning no c 0.
     */
    private static ValuesGo dearWithoutLearning() {
        int[] sets = {511, 3, 15, 15, 3, 3, 1, 3};
        return check.told(sets, "b+c=d", "c+d!0", "h:a<8", "e!f", "(e-f)*(e-f)*h=0");
    }

    private static void onlySearchLearns() {
        ValuesGo x = dearWithoutLearning();
        check.due("with learning", x.search(0, 0, 1, 0), 80110100);
        check.due("tries with learning", x.search(0, 0, 1, 1), 100);
        check.due("without", x.search(0, 0, 0, 0), ValuesGo.DEAR);
        check.due("reach() of the one value that g has", x.reach(6, 0), ValuesGo.DEAR);
        check.due("film()", x.film(0, 0, 0), ValuesGo.DEAR);
        x.sheet(0, 0, 8);
        int[] values = {8, 0, 1, 1, 0, 1, 0, 0};
        for (int v = 0; v < 8; v++) {
            x.put(0, v, values[v]);
        }
        check.due("tells(): not by the first with its least", x.tells(0, 0) & 1, 0);
        check.due("tells(): no rule is against it", x.tells(0, 1), 0);
    }

    private static void solutions() {
        ValuesGo x = check.with("distinct a b c");
        for (int v = 0; v < 8; v++) {
            x.tell(v, v < 3 ? 7 : 2);
        }
        check.due("three in any order", x.solutions(), 6);
        check.due("without a free one", check.with("a=1", "b=2", "c=3", "d=4", "e=5", "f=6", "g=7", "h=8").solutions(), 1);
        ValuesGo y = check.with("a<a");
        check.due("none", y.solutions(), 0);
        y.run();
        check.due("none when all is failed", y.solutions(), 0);
        ValuesGo z = check.hard(98);
        z.tell(0, 512);
        check.due("two of b with two of e each", z.solutions(), 4);
    }

    private static ValuesGo below(int number) {
        return check.told(new int[] {1023, 1023, 1023}, "a*100+b*10+c<" + number);
    }

    private static void solutionsDear() {
        // Of n leaves without a failure n - 1 were reached by tries of their own.
        check.due("300 tries", below(301).solutions(), 301);
        check.due("301 tries", below(302).solutions(), ValuesGo.NO);
        check.due("none ruled out", new ValuesGo().solutions(), -4611686018427387904L);
    }

    private static void reach() {
        ValuesGo x = check.with("a+b=9", "a-b=1", "c<d");
        check.due("reach(0, 0)", x.reach(0, 0), 5);
        check.due("reach(0, 1)", x.reach(0, 1), 5);
        check.due("reach(1, 0)", x.reach(1, 0), 4);
        check.due("reach(2, 0)", x.reach(2, 0), 0);
        check.due("reach(2, 1)", x.reach(2, 1), 8);
        check.due("reach(3, 0)", x.reach(3, 0), 1);
        check.due("reach(3, 1)", x.reach(3, 1), 9);
        check.due("domain(0)", x.domain(0), 1023);
        x.tell(2, 0b11000);
        check.due("reach(2, 0) behind a decision", x.reach(2, 0), 3);
        check.due("reach(3, 0)", x.reach(3, 0), 4);
        check.due("reach(-1, 0)", x.reach(-1, 0), ValuesGo.BAD);
        check.due("reach(8, 0)", x.reach(8, 0), ValuesGo.BAD);
        check.due("reach(0, 2)", x.reach(0, 2), ValuesGo.BAD);
        check.due("reach(0, -1)", x.reach(0, -1), ValuesGo.BAD);
        x.tell(0, 32);
        for (int i = 0; i < 10; i++) {
            x.tell(7, 1023);
        }
        check.due("reach() with 12 decisions there", x.reach(4, 1), 9);
        check.due("tell() with 12 decisions there", x.tell(4, 1), ValuesGo.FULL);
        check.due("reach() of one that can't be", check.with("a!a").reach(5, 0), ValuesGo.NONE);
        ValuesGo y = new ValuesGo();
        y.tell(3, 0);
        check.due("reach() when all is failed", y.reach(0, 0), ValuesGo.NONE);
    }

    private static void reachDear() {
        check.due("c's least: the search of check.hard(50)", check.hard(50).reach(2, 0), ValuesGo.DEAR);
        check.due("c's least: the search of check.hard(49)", check.hard(49).reach(2, 0), 0);
        check.due("a's least: each a has its own search", check.hard(50).reach(0, 0), 5);
        check.due("a's greatest", check.hard(50).reach(0, 1), 9);
        check.due("b's least, with a's five failing", check.hard(50).reach(1, 0), 0);
    }
}
