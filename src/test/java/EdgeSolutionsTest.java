import java.util.function.Supplier;

/** The edges that the document names in promises 17 to 19: search, solutions, reach. */
public final class EdgeSolutionsTest {
    private static final int MOST = Integer.MAX_VALUE;
    private static final int LEAST = Integer.MIN_VALUE;
    private static final Check check = new Check();

    public static void main(String[] args) {
        searchNumbers();
        searchOfTheHundredthTry();
        searchBadAheadOfDear();
        searchWithoutATry();
        searchFailedAhead();
        searchFailedByTheFirstRunning();
        searchWhereNothingIsLeft();
        searchWithTwelveDecisions();
        searchChangesNothing();
        choosesTheFirstOfLikeOnes();
        choosesNoneThatIsSettled();
        picksAtTheEnds();
        picksTheMiddle();
        solutionOfLeadingNoughts();
        learnsEight();
        learnsByNoTurn();
        learnedOnesSpareATry();
        learnedOnesPruneEachVariable();
        learnedOnesAreGone();
        learnedOnesDontCount();
        solutionsOfTheThreeHundredthTry();
        solutionsByTheFirst();
        solutionsByTheLeast();
        solutionsWithoutLearning();
        solutionsOfNoneAndOne();
        solutionsChangesNothing();
        reachNumbers();
        reachOfTheEnds();
        reachNone();
        reachOfTheHundredthTry();
        reachIsDearAtTheFirst();
        reachChangesNothing();
        check.close();
    }

    private static void searches(String of, ValuesGo x, int choose, int pick, int learn, int... due) {
        for (int what = 0; what < 4; what++) {
            check.due(of + ": search(" + choose + ", " + pick + ", " + learn + ", " + what + ")",
                x.search(choose, pick, learn, what), due[what]);
        }
    }

    // ---- promise 17

    private static void searchNumbers() {
        check.says(17, "SEARCH by CHOICES, LEARNING (learn 1) or not (0):");
        ValuesGo x = new ValuesGo();
        int[] wrong = {-1, MOST, LEAST};
        for (int w : wrong) {
            check.due("search(" + w + ", 0, 0, 0)", x.search(w, 0, 0, 0), ValuesGo.BAD);
            check.due("search(0, " + w + ", 0, 0)", x.search(0, w, 0, 0), ValuesGo.BAD);
            check.due("search(0, 0, " + w + ", 0)", x.search(0, 0, w, 0), ValuesGo.BAD);
            check.due("search(0, 0, 0, " + w + ")", x.search(0, 0, 0, w), ValuesGo.BAD);
        }
        check.due("search(4, 0, 0, 0)", x.search(4, 0, 0, 0), ValuesGo.BAD);
        check.due("search(0, 3, 0, 0)", x.search(0, 3, 0, 0), ValuesGo.BAD);
        check.due("search(0, 0, 2, 0)", x.search(0, 0, 2, 0), ValuesGo.BAD);
        check.due("search(0, 0, 0, 4)", x.search(0, 0, 0, 4), ValuesGo.BAD);
        check.due("search(3, 2, 1, 3)", x.search(3, 2, 1, 3), 0);
        check.due("search(3, 2, 1, 0)", x.search(3, 2, 1, 0), 55555555);
    }

    private static void searchOfTheHundredthTry() {
        check.says(0, "It is DEAR ahead of its 101st TRY.");
        // 20 for each a below 4, 1 for a 4, 9 for b 0 to 8, 9 for e behind these and 1 behind b 9: 100.
        searches("100 tries", check.hard(49), 0, 0, 0, 49000100, 100, 98, 0);
        // The same, and one more for g.
        searches("101 tries", check.hard(49, 3), 0, 0, 0, -6, -6, -6, -6);
        searches("101 tries, learning", check.hard(49, 3), 0, 0, 1, -6, -6, -6, -6);
        searches("99 tries and one for g", check.hard(48, 3), 0, 0, 0, 48000100, 100, 96, 0);
    }

    private static void searchBadAheadOfDear() {
        check.says(17, "BAD; DEAR.");
        ValuesGo x = check.hard(50);
        check.due("search(0, 0, 0, 0)", x.search(0, 0, 0, 0), ValuesGo.DEAR);
        check.due("search(0, 0, 0, 4)", x.search(0, 0, 0, 4), ValuesGo.BAD);
        check.due("search(0, 0, 2, 0)", x.search(0, 0, 2, 0), ValuesGo.BAD);
        check.due("search(0, 0, -1, 0)", x.search(0, 0, -1, 0), ValuesGo.BAD);
    }

    private static void searchWithoutATry() {
        check.says(0, "if all VARIABLES are SETTLED, that is a SOLUTION;");
        ValuesGo x = check.told(new int[] {512, 256, 128, 64, 32, 16, 8, 4});
        searches("all settled", x, 0, 0, 0, 98765432, 0, 0, 0);
        ValuesGo y = check.told(new int[] {1023, 4}, "a=b*b");
        searches("all settled by the first running", y, 2, 1, 1, 42000000, 0, 0, 0);
    }

    private static void searchFailedAhead() {
        check.says(17, "how often all was FAILED (2; 1, if it is so already ahead)");
        ValuesGo x = check.with("a<b");
        x.tell(7, 0);
        for (int choose = 0; choose < 4; choose++) {
            searches("failed ahead", x, choose, choose % 3, 0, -1, 0, 1, 0);
            searches("failed ahead, learning", x, choose, choose % 3, 1, -1, 0, 1, 0);
        }
    }

    private static void searchFailedByTheFirstRunning() {
        check.says(0, "RUNNING; if all is FAILED, it turns back;");
        ValuesGo x = check.with("a<b", "b<a");
        searches("failed by running", x, 0, 0, 0, -1, 0, 1, 0);
        searches("failed by running, learning", x, 0, 0, 1, -1, 0, 1, 0);
        check.due("count(8): in thought alone", x.count(8), 0);
        check.due("count(5)", x.count(5), 0);
    }

    private static void searchWhereNothingIsLeft() {
        check.says(17, "the SOLUTION as digits, VARIABLE 0's the highest (what 0; NONE)");
        // a 0: b and c are 1, a 1 by the turn: both are 0. Each time two are alike.
        ValuesGo x = check.told(new int[] {3, 3, 3}, "a!b", "b!c", "a!c");
        searches("two values for three", x, 0, 0, 0, -1, 1, 2, 0);
    }

    private static void searchWithTwelveDecisions() {
        check.says(0, "the VARIABLE has the VALUE, as a DECISION (there's always room);");
        ValuesGo x = check.with("a+b=9", "a-b=1");
        for (int i = 0; i < 12; i++) {
            x.tell(7, 1022);
        }
        check.due("tell() has none", x.tell(7, 1023), ValuesGo.FULL);
        searches("with 12 there", x, 0, 0, 0, 54000001, 10, 4, 0);
        searches("with 12 there, learning", x, 0, 0, 1, 54000001, 10, 4, 4);
    }

    private static void searchChangesNothing() {
        check.says(0, "A SEARCH (in thought) by CHOICES:");
        Supplier<ValuesGo> made = () -> {
            ValuesGo x = check.with("a+b=9", "c<d");
            x.run();
            x.level();
            x.tell(2, 1008);
            x.image();
            Check.rule(x, "a-b=1");
            Check.feed(x, "e<f");
            return x;
        };
        check.changesNothing("search(0, 0, 0, 0)", made, x -> x.search(0, 0, 0, 0), 54450000);
        check.changesNothing("search(0, 0, 1, 3)", made, x -> x.search(0, 0, 1, 3), 4);
        check.changesNothing("search(0, 0, 0, 4)", made, x -> x.search(0, 0, 0, 4), ValuesGo.BAD);
        Supplier<ValuesGo> dear = () -> check.hard(50);
        check.changesNothing("search() that is dear", dear, x -> x.search(0, 0, 0, 0), ValuesGo.DEAR);
        check.changesNothing("search() that is dear, learning", dear, x -> x.search(0, 0, 1, 0), ValuesGo.DEAR);
        check.changesNothing("search() that finds none", () -> check.with("a<a"), x -> x.search(0, 0, 0, 0), ValuesGo.NONE);
    }

    private static void choosesTheFirstOfLikeOnes() {
        check.says(0, "3 in most RULES (learned ones don't count); of like ones the first;");
        for (int choose = 0; choose < 4; choose++) {
            check.due("a is 0 first, by " + choose, check.told(new int[] {3, 3}, "a!b").search(choose, 0, 0, 0), 1000000);
            check.due("g is 0 first, by " + choose, check.told(new int[] {1, 1, 1, 1, 1, 1, 3, 3}, "g!h").search(choose, 0, 0, 0), 1);
        }
    }

    private static void choosesNoneThatIsSettled() {
        check.says(0, "of a VARIABLE that isn't SETTLED: 0 the first; 1 with the fewest VALUES; 2 with the most;");
        // a is settled, b has 1 to 3, c 1 and 2, d 2 to 5; c is in most rules of those that aren't settled.
        ValuesGo x = check.told(new int[] {1, 14, 6, 60}, "a<c", "a<d", "a<b", "a<9", "c!d", "c!b");
        // b 1, so c is 2: d is tried.
        searches("by the first", x, 0, 0, 0, 123_0000, 2, 0, 0);
        // c 1; b is tried, as it has two and d four; then d.
        searches("by the fewest", x, 1, 0, 0, 212_0000, 3, 0, 0);
        // d 2, so c is 1: b is tried.
        searches("by the most", x, 2, 0, 0, 212_0000, 2, 0, 0);
        // c 1; b is tried, as it is in as many as d; then d.
        searches("by most rules", x, 3, 0, 0, 212_0000, 3, 0, 0);
    }

    private static void picksAtTheEnds() {
        check.says(0, "of its VALUE: 0 the least; 1 the greatest;");
        check.due("the least", new ValuesGo().search(0, 0, 0, 0), 0);
        check.due("the greatest", new ValuesGo().search(0, 1, 0, 0), 99999999);
        ValuesGo x = check.told(new int[] {0b0110100100, 0b1000000001});
        check.due("the least of some", x.search(0, 0, 0, 0), 20_000000);
        check.due("the greatest of some", x.search(0, 1, 0, 0), 89_000000);
    }

    private static void picksTheMiddle() {
        check.says(0, "2 of m VALUES the one at place m / 2 (cut) from 0.");
        int[] sets = {0b10001000, 0b1000010010, 0b1010101, 0b1111100000, 0b111111, 0b1111111110, 0b1111111111, 0b11};
        // 3 7: 7; 1 4 9: 4; 0 2 4 6: 4; 5 to 9: 7; 0 to 5: 3; 1 to 9: 5; 0 to 9: 5; 0 1: 1
        check.due("of 2, 3, 4, 5, 6, 9, 10 and 2", check.told(sets).search(0, 2, 0, 0), 74473551);
    }

    private static void solutionOfLeadingNoughts() {
        check.says(17, "the SOLUTION as digits, VARIABLE 0's the highest");
        check.due("only h's is seen", check.told(new int[] {1, 1, 1, 1, 1, 1, 1, 128}).search(0, 0, 0, 0), 7);
        check.due("all noughts are no NONE", check.told(new int[] {1}).search(0, 0, 0, 0), 0);
        check.due("all nines", check.told(new int[] {512, 512, 512, 512, 512, 512, 512, 512}).search(0, 0, 0, 0), 99999999);
    }

    private static void learnsEight() {
        check.says(0, "those left are a NOGOOD, learned (8 at most), behind all RULES;");
        for (int below = 0; below < 13; below++) {
            // The first TRY of e behind each b for which d is 1 fails; the failure behind its turn teaches nothing.
            check.due("learned of " + below + " failures", check.hard(below).search(0, 0, 1, 3), Math.min(below, 8));
            check.due("how often all was failed", check.hard(below).search(0, 0, 1, 2), 2 * below);
        }
    }

    private static void learnsByNoTurn() {
        check.says(0, "LEARNING: if all is FAILED right by the RUNNING behind a TRY:");
        // One try of a, by which all is failed; so it is by its turn, and there is no try more.
        ValuesGo x = check.told(new int[] {3, 3, 3}, "a!b", "b!c", "a!c");
        searches("one of two failures", x, 0, 0, 1, -1, 1, 2, 1);
    }

    private static void learnedOnesSpareATry() {
        check.says(0, "those left are a NOGOOD, learned (8 at most), behind all RULES;");
        // b 0 with c 0 fails, which only a try of c shows; while a is 0 all else fails by d and e.
        int[] sets = {3, 3, 15, 15, 3, 3};
        String[] rules = {"b+c=d", "c+d!0", "e!f", "a>(e-f)*(e-f)-1"};
        ValuesGo x = check.told(sets, rules);
        // a 0: b 0: c 0 fails, c 1 and c 2 with two e each, c 3 by the turn with two; b 1 by the turn: c 0, 1 with two e
        // each, 2 by the turn, as d is 3 at most, with two. a 1: b 0: c 0 fails; c 1, e 0.
        searches("without", x, 0, 0, 0, 10110100, 17, 14, 0);
        // With a 1 the try of b wakes what was learned of b and c.
        searches("with", x, 0, 0, 1, 10110100, 16, 13, 7);
    }

    /** The same with other names: by most RULES b, c, a are tried in this order; each name goes so many places on. */
    private static ValuesGo renamed(int on) {
        int[] sets = {15, 3, 3, 15, 3, 3, 1, 1};
        String[] rules = {"c+a=d", "a+d!0", "e!f", "b>(e-f)*(e-f)-1", "b<9", "b<9", "b<9", "b<9", "b<9", "c<9", "c<9", "c<9",
            "c<9", "a<9", "a<9"};
        ValuesGo x = new ValuesGo();
        for (String rule : rules) {
            StringBuilder text = new StringBuilder();
            for (char c : rule.toCharArray()) {
                text.append(c >= 'a' && c <= 'h' ? (char) ('a' + (c - 'a' + on) % 8) : c);
            }
            Check.rule(x, text.toString());
        }
        for (int v = 0; v < 8; v++) {
            x.tell((v + on) % 8, sets[v]);
        }
        return x;
    }

    private static void learnedOnesPruneEachVariable() {
        check.says(0, "NOGOOD: of its PAIRS (a VARIABLE and a VALUE each, of unlike VARIABLES) one at least isn't so.");
        check.due("a 1, b 1, d 1, f 1", renamed(0).search(3, 0, 1, 0), 11010100);
        for (int on = 0; on < 8; on++) {
            ValuesGo x = renamed(on);
            for (int learn = 0; learn < 2; learn++) {
                check.due(on + " on, its tries", x.search(3, 0, learn, 1), 17 - learn);
                check.due(on + " on, its failures", x.search(3, 0, learn, 2), 14 - learn);
                check.due(on + " on, learned", x.search(3, 0, learn, 3), 7 * learn);
            }
        }
    }

    private static void learnedOnesAreGone() {
        check.says(0, "Learned ones are gone at the end.");
        ValuesGo x = check.hard(20);
        check.due("learned", x.search(0, 0, 1, 3), 8);
        check.due("learned again", x.search(0, 0, 1, 3), 8);
        check.due("count(0)", x.count(0), 3);
        check.due("told(3, 0)", x.told(3, 0), ValuesGo.BAD);
        check.due("told(16, 0)", x.told(16, 0), ValuesGo.BAD);
        check.due("taken(16, 0)", x.taken(16, 0), -11);
        int waiting = x.count(4);
        int runs = x.run();
        check.due("rule()", Check.rule(x, "a<9"), 3);
        check.due("what ran were rules", runs >= waiting && x.count(4) == 1 ? 1 : 0, 1);
    }

    private static void learnedOnesDontCount() {
        check.says(0, "3 in most RULES (learned ones don't count)");
        // b is in three rules, e, f and d in two, a and c in one; what is learned is of b, e and others.
        ValuesGo x = check.hard(30);
        check.due("by most rules without learning", x.search(3, 0, 0, 0), x.search(3, 0, 1, 0));
        check.due("its tries", x.search(3, 0, 0, 1), x.search(3, 0, 1, 1));
    }

    // ---- promise 18

    private static ValuesGo below(int number) {
        return check.told(new int[] {1023, 1023, 1023}, "a*100+b*10+c<" + number);
    }

    private static void solutionsOfTheThreeHundredthTry() {
        check.says(0, "(DEAR ahead of its 301st TRY;");
        // Each but one of the SOLUTIONS was come to by a TRY of its own.
        check.due("299 tries", below(300).solutions(), 300);
        check.due("300 tries", below(301).solutions(), 301);
        check.due("301 tries", below(302).solutions(), ValuesGo.NO);
        // 2 for each of 50 that fail, 4 for each of the others, less 1: 299; with 49 that fail: 301.
        check.due("299 tries, with failures", check.hard(50, 3).solutions(), 200);
        check.due("301 tries, with failures", check.hard(49, 3).solutions(), ValuesGo.NO);
        check.says(18, "ALL: how many SOLUTIONS. NO: DEAR.");
        check.due("NO", check.hard(0, 7).solutions(), -4611686018427387904L);
    }

    private static void solutionsByTheFirst() {
        check.says(0, "by CHOICES 0, 0, without LEARNING).");
        // By the fewest d would be tried first and 1 ruled out for all a and b at once: 2 and 4 times 51, less 1.
        check.due("a and b ahead of d", check.hard(49, 3).solutions(), ValuesGo.NO);
    }

    private static void solutionsByTheLeast() {
        check.says(0, "by CHOICES 0, 0, without LEARNING).");
        // b 1 can't be, as its two rules see together: by the least a's 5 to 9 go at once, by the greatest one by one.
        int[] sets = {1023, 3, 3, 1023, 7};
        check.due("5 times 2 times 30 and 1, less 1", check.told(sets, "b:a>4", "c>b-1", "b+c<2").solutions(), 300);
        sets[5 - 1] = 15;
        check.due("5 times 2 times 40 and 1, less 1", check.told(sets, "b:a>4", "c>b-1", "b+c<2").solutions(), ValuesGo.NO);
    }

    private static void solutionsWithoutLearning() {
        check.says(0, "by CHOICES 0, 0, without LEARNING).");
        // Each a costs 30 SOLUTIONS and the failure of b 0 with c 0, which learning would spare from the second a on.
        int[] sets = {511, 3, 7, 1023, 7, 3};
        check.due("9 times 31, less 1", check.told(sets, "b+c=d", "c+d!0").solutions(), 270);
        sets[0] = 1023;
        check.due("10 times 31, less 1", check.told(sets, "b+c=d", "c+d!0").solutions(), ValuesGo.NO);
    }

    private static void solutionsOfNoneAndOne() {
        check.says(18, "ALL: how many SOLUTIONS.");
        check.due("all settled", check.told(new int[] {2, 4, 8}).solutions(), 1);
        check.due("none", check.with("a<a").solutions(), 0);
        check.due("none behind tries", check.told(new int[] {3, 3, 3}, "a!b", "b!c", "a!c").solutions(), 0);
        ValuesGo x = new ValuesGo();
        x.tell(4, 0);
        check.due("failed ahead", x.solutions(), 0);
        check.due("of ten", check.told(new int[] {1023}).solutions(), 10);
        check.due("of two", check.told(new int[] {1, 1, 1, 1, 1, 1, 1, 513}).solutions(), 2);
    }

    private static void solutionsChangesNothing() {
        check.says(0, "SOLUTIONS of a SEARCH that turns back behind each, too");
        check.changesNothing("solutions()", () -> below(7), ValuesGo::solutions, 7);
        check.changesNothing("solutions() that is dear", () -> below(302), ValuesGo::solutions, ValuesGo.NO);
        check.changesNothing("solutions() of none", () -> check.with("a<a"), ValuesGo::solutions, 0);
    }

    // ---- promise 19

    private static void reachNumbers() {
        check.says(19, "BAD; DEAR: a SEARCH was.");
        ValuesGo x = new ValuesGo();
        int[] wrong = {-1, MOST, LEAST};
        for (int w : wrong) {
            check.due("reach(" + w + ", 0)", x.reach(w, 0), ValuesGo.BAD);
            check.due("reach(0, " + w + ")", x.reach(0, w), ValuesGo.BAD);
        }
        check.due("reach(8, 0)", x.reach(8, 0), ValuesGo.BAD);
        check.due("reach(0, 2)", x.reach(0, 2), ValuesGo.BAD);
        ValuesGo dear = check.hard(50);
        check.due("reach(2, 0)", dear.reach(2, 0), ValuesGo.DEAR);
        check.due("BAD ahead of DEAR", dear.reach(2, 2), ValuesGo.BAD);
        check.due("BAD ahead of DEAR", dear.reach(8, 0), ValuesGo.BAD);
    }

    private static void reachOfTheEnds() {
        check.says(0, "the first of its VALUES, from 0 on, from 9 on,");
        for (int v = 0; v < 8; v++) {
            ValuesGo x = new ValuesGo();
            check.due("reach(" + v + ", 0)", x.reach(v, 0), 0);
            check.due("reach(" + v + ", 1)", x.reach(v, 1), 9);
            x.tell(v, 510);
            check.due("reach(" + v + ", 0) without 0", x.reach(v, 0), 1);
            check.due("reach(" + v + ", 1) without 9", x.reach(v, 1), 8);
            x.tell(v, 16);
            check.due("reach(" + v + ", 0) of one", x.reach(v, 0), 4);
            check.due("reach(" + v + ", 1) of one", x.reach(v, 1), 4);
        }
    }

    private static void reachNone() {
        check.says(19, "NONE: there is no SOLUTION.");
        ValuesGo x = check.with("a<a");
        check.due("reach(0, 0)", x.reach(0, 0), ValuesGo.NONE);
        check.due("reach(7, 1)", x.reach(7, 1), ValuesGo.NONE);
        x.run();
        check.due("reach(0, 0) where all is failed", x.reach(0, 0), ValuesGo.NONE);
        check.due("reach(7, 1) where all is failed", x.reach(7, 1), ValuesGo.NONE);
        check.due("reach(8, 1) where all is failed", x.reach(8, 1), ValuesGo.BAD);
        ValuesGo y = check.told(new int[] {3, 3, 3}, "a!b", "b!c", "a!c");
        check.due("each of two fails", y.reach(0, 0), ValuesGo.NONE);
    }

    private static void reachOfTheHundredthTry() {
        check.says(19, "DEAR: a SEARCH was.");
        check.due("100 tries", check.hard(49).reach(7, 0), 0);
        check.due("101 tries", check.hard(49, 3).reach(7, 0), ValuesGo.DEAR);
        check.due("100 tries, as g is told", check.hard(49, 3).reach(6, 0), 0);
        check.due("100 tries, as g is told", check.hard(49, 3).reach(6, 1), 1);
    }

    private static void reachIsDearAtTheFirst() {
        check.says(0, "with which (told as a DECISION, in thought) there is a SOLUTION by CHOICES 0, 0 (without LEARNING).");
        // With d 1 all fails: 20 tries for each a, but for the last 19.
        check.due("d's 1 is 99 tries, then d's 0", check.hard(50).reach(3, 1), 0);
        check.due("d's 1 is dear, though d's 0 is at hand", check.hard(60).reach(3, 1), ValuesGo.DEAR);
        check.due("d's 0 is first", check.hard(60).reach(3, 0), 0);
    }

    private static void reachChangesNothing() {
        check.says(0, "(told as a DECISION, in thought)");
        check.changesNothing("reach(0, 0)", () -> check.hard(30), x -> x.reach(0, 0), 3);
        check.changesNothing("reach(7, 0) that is dear", () -> check.hard(50), x -> x.reach(7, 0), ValuesGo.DEAR);
        check.changesNothing("reach(0, 2)", () -> check.hard(30), x -> x.reach(0, 2), ValuesGo.BAD);
        check.changesNothing("reach(0, 0) of none", () -> check.with("a<a"), x -> x.reach(0, 0), ValuesGo.NONE);
    }
}
