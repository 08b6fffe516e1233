/** The sentences ahead of the promises that name no edge: what the class is for, and what each term means. */
public final class SentenceTermsTest {
    private static final Check check = new Check();

    public static void main(String[] args) {
        whatRulesAreFor();
        whatGoingIsFor();
        whatSearchesAreFor();
        whatWasToldIsFor();
        kinds();
        noneAndNo();
        refusals();
        texts();
        ones();
        noOnes();
        numbersTooLong();
        holdsForEachWay();
        prunesWhatHasNoWay();
        queueOfRules();
        othersComeToTheQueue();
        tellingADecision();
        fromStart();
        whyOfSome();
        whyOfAFailure();
        anotherOrder();
        triesAreTurnedBack();
        pairsAreLeftOut();
        pairsFromTheFirstOn();
        allSolutions();
        leastAndGreatest();
        sheetsTell();
        check.close();
    }

    /** Whether a rule holds for values of its variables by numbers, as this test reckons it. */
    private interface Way {
        boolean holds(int x, int y, int z);
    }

    // ---- what it is

    private static void whatRulesAreFor() {
        check.says(0, "variables have domains, rules are read from texts and prune what no rule can do with;");
        ValuesGo x = check.with("a<b", "b<c", "distinct a d e", "f:a+1=b");
        check.due("domain(0) ahead of all", x.domain(0), 1023);
        check.says(0, "which one runs next goes by priorities;");
        int[] due = {0, 1, 0, 3, 2, ValuesGo.NONE};
        for (int i = 0; i < due.length; i++) {
            check.due("step() " + i, x.step(), due[i]);
        }
        check.due("domain(0): 0 to 7", x.domain(0), 255);
        check.due("domain(2): 2 to 9", x.domain(2), 1020);
        check.says(0, "a test may be bound to a variable that tells whether it holds;");
        check.due("domain(5): it may hold or not", x.domain(5), 3);
        x.tell(0, 8);
        x.tell(1, 16);
        x.run();
        check.due("domain(5): 3 + 1 = 4 holds", x.domain(5), 2);
        ValuesGo y = check.with("f:a+1=b");
        y.tell(0, 8);
        y.tell(5, 1);
        y.run();
        check.due("domain(1): all but 4, as it doesn't hold", y.domain(1), 1023 & ~16);
    }

    private static void whatGoingIsFor() {
        check.says(0, "what went, went for a reason, and of all that was decided the few that suffice are told;");
        ValuesGo x = check.with("a<b");
        x.tell(7, 1022);
        x.tell(0, 1008);
        x.run();
        check.due("the reason of h's 0", x.trail(x.trail(0, 1070), 1), 100);
        check.due("the reason of a's 3", x.trail(x.trail(0, 1003), 1), 101);
        check.due("the reason of b's 4", x.trail(x.trail(0, 1014), 1), 0);
        check.due("why b's 4 went", x.why(1, 4), 2);
        check.due("why h's 0 went", x.why(7, 0), 1);
        check.says(0, "levels are opened and taken back along a trail;");
        int went = x.count(1);
        check.due("level()", x.level(), 1);
        check.due("tell(1, 32)", x.tell(1, 32), 4);
        x.run();
        check.due("domain(0): 4", x.domain(0), 16);
        check.due("undo(): b's four and a's four", x.undo(), 8);
        check.due("count(1)", x.count(1), went);
        check.due("domain(0): 4 to 8", x.domain(0), 496);
        check.due("domain(1): 5 to 9", x.domain(1), 992);
    }

    private static void whatSearchesAreFor() {
        check.says(0, "a search goes by functions that choose a variable and a value, learns what can't be had together, and "
            + "tells the first solution, all of them, the least and the greatest;");
        ValuesGo x = check.told(new int[] {7, 7, 7}, "distinct a b c");
        check.due("by the first and the least", x.search(0, 0, 0, 0), 1200000);
        check.due("by the first and the greatest", x.search(0, 1, 0, 0), 21000000);
        check.due("all of them", x.solutions(), 6);
        check.due("the least", x.reach(2, 0), 0);
        check.due("the greatest", x.reach(2, 1), 2);
        ValuesGo y = check.told(new int[] {3, 3, 3}, "a!b", "b!c", "a!c");
        check.due("learned: a 0 can't be had", y.search(0, 0, 1, 3), 1);
        check.due("not learned", y.search(0, 0, 0, 3), 0);
    }

    private static void whatWasToldIsFor() {
        check.says(0, "which rules do nothing, whether another order comes to the same;");
        ValuesGo x = check.with("a<b", "b<c", "a<c");
        check.due("a<b does something", x.told(0, 4), 0);
        check.due("a<c follows", x.told(2, 4), 1);
        check.due("domain(0) in another order", x.mixed(77, 0), 255);
        x.run();
        check.due("domain(0)", x.domain(0), 255);
        check.says(0, "what was found, read back: by which choices, against which rules; an image laid back; sheets of ints, "
            + "shorts and bytes.");
        check.due("film(1, 0, 1)", x.film(1, 0, 1), 8);
        check.due("found by the greatest of each", x.tells(1, 0), 0b010_010_010_010);
        check.due("against no rule", x.tells(1, 1), 0);
        x.put(1, 1, 0);
        check.due("a 7, b 0, c 9: against a<b", x.tells(1, 1), 1);
        check.due("image()", x.image(), x.count(1));
        x.tell(0, 0);
        check.due("failed", x.count(8), 1);
        x.back();
        check.due("laid back", x.count(8), 0);
        int[] due = {70000, 4464, 112};
        for (int sort = 0; sort < 3; sort++) {
            Check.show(x, 2, sort, 70000);
            check.due("70000 in a sheet of sort " + sort, x.item(2, 0), due[sort]);
        }
    }

    // ---- 1

    private static void kinds() {
        check.says(0, "are of KINDS: 0 PLAIN, 1 REIFIED, 2 DISTINCT, 3 NOGOOD.");
        String[] texts = {"a<b", "c:a<b", "distinct a b"};
        for (int kind = 0; kind < 3; kind++) {
            ValuesGo x = check.with(texts[kind]);
            check.due("KIND of '" + texts[kind] + "'", x.told(0, 0), kind);
            check.due("taken(0, " + kind + ")", x.taken(0, kind), Integer.bitCount(x.told(0, 1)));
        }
        ValuesGo y = check.hard(20);
        y.search(0, 0, 1, 0);
        for (int rule = 0; rule < y.count(0); rule++) {
            check.due("whether rule " + rule + " is a NOGOOD", y.told(rule, 0) == 3 ? 1 : 0, 0);
        }
        check.due("taken(0, 3)", y.taken(0, 3), -2);
    }

    private static void noneAndNo() {
        check.says(0, "NONE is -1; NO, where a long is answered, -4611686018427387904.");
        ValuesGo x = new ValuesGo();
        check.due("step()", x.step(), -1);
        check.due("trail(0, 1033)", x.trail(0, 1033), -1);
        check.due("why(3, 3)", x.why(3, 3), -1);
        check.due("solutions()", x.solutions(), -4611686018427387904L);
        ValuesGo y = check.with("a!a");
        check.due("mixed(0, 0)", y.mixed(0, 0), -1);
        check.due("search(0, 0, 0, 0)", y.search(0, 0, 0, 0), -1);
        check.due("reach(0, 0)", y.reach(0, 0), -1);
        check.due("film(0, 0, 0)", y.film(0, 0, 0), -1);
    }

    private static void refusals() {
        check.says(0, "BAD (-2: a number is none such or not as told), STATE (-3), FULL (-4), DEAR (-6); the host's: -11 nothing "
            + "where something is asked, -12 a place outside, -13 a thing of another sort or KIND, -14 a size below 0.");
        ValuesGo x = check.with("a<b");
        check.due("domain(8): none such", x.domain(8), -2);
        check.due("tell(0, 1024): not as told", x.tell(0, 1024), -2);
        check.due("undo()", x.undo(), -3);
        x.run();
        for (int i = 0; i < 8; i++) {
            x.level();
        }
        check.due("level(), the ninth", x.level(), -4);
        check.due("search() that is dear", check.hard(50).search(0, 0, 0, 0), -6);
        check.due("taken() of none", x.taken(1, 0), -11);
        check.due("put() in a missing sheet", x.put(0, 0, 0), -11);
        check.due("decision(0, 0) of none", x.decision(0, 0), -12);
        check.due("taken() of another KIND", x.taken(0, 1), -13);
        x.sheet(0, 1, 2);
        check.due("load() of another sort", x.load(0, 2, 0, 1), -13);
        check.due("sheet(0, 0, -1)", x.sheet(0, 0, -1), -14);
    }

    private static void texts() {
        check.says(0, "TEXT: TEST (PLAIN), or NAME : TEST (REIFIED), or distinct NAME NAME, perhaps a third NAME (DISTINCT).");
        String[] texts = {"a<b", "1=1", "(a)>-b", "a:b<c", "h:h!h", "distinct c a", "distinct h g f"};
        int[] kinds = {0, 0, 0, 1, 1, 2, 2};
        int[] variables = {3, 0, 3, 7, 128, 5, 224};
        for (int i = 0; i < texts.length; i++) {
            ValuesGo x = check.with(texts[i]);
            check.due("KIND of '" + texts[i] + "'", x.told(0, 0), kinds[i]);
            check.due("VARIABLES of '" + texts[i] + "'", x.told(0, 1), variables[i]);
        }
        fault("distinct a", 10);
        fault("distinct a b c d", 15);
        fault("a:", 2);
        fault("a:distinct b c", 2);
        fault("distinct a:b<c", 10);
        fault("a<b:c<d", 3);
    }

    private static void fault(String text, int place) {
        check.due("rule() of '" + text + "'", Check.rule(new ValuesGo(), text), -100 - place);
    }

    private static void ones() {
        check.says(0, "ONE: a NUMBER, a NAME (a WORD of one letter, a .. h), - ONE, ( SUM ).");
        String[] ones = {"7", "c", "-c", "- -7", "(c)", "(c-5)", "-(c*2)", "(-(c))", "0003"};
        int[] values = {7, 3, -3, 7, 3, -2, -6, -3, 3};
        String[] signs = {"+", "-", "*"};
        for (int i = 0; i < ones.length; i++) {
            so(ones[i], values[i]);
            for (int sign = 0; sign < 3; sign++) {
                int due = sign == 0 ? 2 + values[i] : sign == 1 ? 2 - values[i] : 2 * values[i];
                so("2" + signs[sign] + ones[i], due);
                so(ones[i] + signs[sign] + "2", sign == 1 ? -due : due);
            }
        }
    }

    /** That a sum, where c is 3, is this, on either side of a test. */
    private static void so(String sum, int due) {
        for (int a = 0; a < 10; a++) {
            ValuesGo x = check.with("a-5=" + sum, sum + "=a-5");
            check.due("whether " + sum + " is " + (a - 5), x.holds(0, a, 3, 0), a - 5 == due ? 1 : 0);
            check.due("whether it is so, turned round", x.holds(1, a, 3, 0), a - 5 == due ? 1 : 0);
        }
    }

    private static void noOnes() {
        check.says(0, "ONE: a NUMBER, a NAME (a WORD of one letter, a .. h), - ONE, ( SUM ).");
        String[] none = {"", "+", "*", ":", "<", "=", ">", "!", ")", "i", "z", "aa", "distinct", "12345", "A", ","};
        String[] ahead = {"", "a+", "a-", "a*", "-", "(", "a<", "a=b*", "a!(", "a:", "a:-", "a<b+"};
        for (String no : none) {
            for (String text : ahead) {
                if (!(text + no).equals("distinct")) {
                    fault(text + no, text.length());
                }
            }
        }
    }

    private static void numbersTooLong() {
        check.says(0, "a NUMBER that is too long,");
        fault("12345<a", 0);
        fault("a<00000", 2);
        fault("a+b <  123456", 7);
        fault("a:(10000", 3);
        fault("distinct a 10000", 11);
        fault("a < 10000 < 10000", 4);
        fault("a < < 10000", 4);
        check.due("rule() of 'a<9999'", Check.rule(new ValuesGo(), "a<9999"), 0);
        check.due("rule() of '0000<a'", Check.rule(new ValuesGo(), "0000<a"), 0);
    }

    private static void holdsForEachWay() {
        check.says(0, "A RULE HOLDS for VALUES of its VARIABLES: PLAIN: its TEST does");
        eachWay("a*b-c<20", (x, y, z) -> x * y - z < 20);
        eachWay("c+2*b=a*a", (x, y, z) -> z + 2 * y == x * x);
        eachWay("a-b!c-4", (x, y, z) -> x - y != z - 4);
        eachWay("f:b>d", (x, y, z) -> z == 1 && x > y || z == 0 && x <= y);
        eachWay("b:b+d>f", (x, y, z) -> x == 1 && x + y > z || x == 0 && x + y <= z);
        eachWay("distinct h a e", (x, y, z) -> x != y && y != z && x != z);
        eachWay("h>g", (x, y, z) -> y > x);
        eachWay("d*d=49", (x, y, z) -> x == 7);
        eachWay("distinct h a", (x, y, z) -> x != y);
    }

    private static void eachWay(String text, Way way) {
        ValuesGo rule = null;
        for (int i = 0; i < 1000; i++) {
            // An object is good for 512 calls.
            rule = i % 250 == 0 ? check.with(text) : rule;
            int due = way.holds(i / 100, i / 10 % 10, i % 10) ? 1 : 0;
            check.due("'" + text + "' for " + i, rule.holds(0, i / 100, i / 10 % 10, i % 10), due);
        }
    }

    // ---- 2

    private static void prunesWhatHasNoWay() {
        check.says(0, "PRUNING of a RULE: each VALUE in a DOMAIN of a VARIABLE of it GOES that it has in no way for which the RULE "
            + "HOLDS,");
        int[][] sets = {{1023, 1023, 1023}, {0b1010101, 0b11100, 1023}, {6, 6, 6}, {0b1000000001, 0b11000, 0b111}, {1, 2, 4},
            {0b1110000000, 0b111, 0b11}, {0b11, 0b11, 0b10}};
        for (int[] s : sets) {
            prunes("a+b=c", (x, y, z) -> x + y == z, s);
            prunes("a*b>c+3", (x, y, z) -> x * y > z + 3, s);
            prunes("a:b<c", (x, y, z) -> x == 1 && y < z || x == 0 && y >= z, s);
            prunes("distinct a b c", (x, y, z) -> x != y && y != z && x != z, s);
            prunes("2*a!b+c", (x, y, z) -> 2 * x != y + z, s);
        }
    }

    /** That one RUN leaves of these domains what stands in some way, or fails by the first variable that has none. */
    private static void prunes(String text, Way way, int[] sets) {
        int[] left = new int[3];
        for (int i = 0; i < 1000; i++) {
            int x = i / 100;
            int y = i / 10 % 10;
            int z = i % 10;
            if ((sets[0] >> x & sets[1] >> y & sets[2] >> z & 1) == 1 && way.holds(x, y, z)) {
                left[0] |= 1 << x;
                left[1] |= 1 << y;
                left[2] |= 1 << z;
            }
        }
        ValuesGo v = check.with(text);
        for (int i = 0; i < 3; i++) {
            v.tell(i, sets[i]);
        }
        String of = "'" + text + "' of " + sets[0] + ", " + sets[1] + ", " + sets[2] + ": ";
        check.due(of + "step()", v.step(), 0);
        check.due(of + "failed", v.count(8), left[0] == 0 ? 1 : 0);
        check.due(of + "domain(0)", v.domain(0), left[0]);
        check.due(of + "domain(1)", v.domain(1), left[0] == 0 ? sets[1] : left[1]);
        check.due(of + "domain(2)", v.domain(2), left[0] == 0 ? sets[2] : left[2]);
    }

    private static void queueOfRules() {
        check.says(0, "THE QUEUE has RULES that are to run (none at first). A RUN:");
        ValuesGo x = new ValuesGo();
        check.due("none at first", x.count(4), 0);
        String[] texts = {"a<b", "distinct a b", "1<2"};
        for (int rule = 0; rule < 3; rule++) {
            Check.rule(x, texts[rule]);
            check.due("count(4)", x.count(4), rule + 1);
            check.due("told(" + rule + ", 3)", x.told(rule, 3), 1);
        }
        int[] due = {2, 0, 1};
        for (int i = 0; i < 3; i++) {
            check.due("step()", x.step(), due[i]);
            check.due("it has left", x.told(due[i], 3), 0);
            check.due("count(4)", x.count(4), 2 - i);
            check.due("count(5)", x.count(5), i + 1);
        }
    }

    private static void othersComeToTheQueue() {
        check.says(0, "then all other RULES with a VARIABLE of which a VALUE went come to THE QUEUE.");
        ValuesGo x = check.with("a<b", "b<c", "a!9", "d<e", "distinct b f g");
        x.run();
        check.due("count(4)", x.count(4), 0);
        x.tell(0, 992);
        check.due("a's rules are to run, that of one VARIABLE first", x.step(), 2);
        check.due("nothing went by it", x.count(4), 1);
        check.due("step(): b's 1 to 5 go", x.step(), 0);
        check.due("domain(1)", x.domain(1), 448);
        int[] due = {0, 1, 0, 0, 1};
        for (int rule = 0; rule < 5; rule++) {
            check.due("told(" + rule + ", 3)", x.told(rule, 3), due[rule]);
        }
    }

    private static void tellingADecision() {
        check.says(0, "To TELL a DECISION: VALUES of the DOMAIN that aren't in its set GO;");
        int[] sets = {0, 1, 512, 1023, 0b1010101010, 0b0101010101, 0b1111100000, 0b0000011111, 0b0011001100};
        for (int first : sets) {
            for (int set : sets) {
                ValuesGo x = new ValuesGo();
                x.tell(5, first);
                int due = first == 0 ? ValuesGo.STATE : Integer.bitCount(first & ~set);
                check.due("tell(5, " + set + ") where " + first + " is left", x.tell(5, set), due);
                check.due("domain(5)", x.domain(5), first & set);
            }
        }
    }

    private static void fromStart() {
        check.says(0, "FROM START are all RULES and some DECISIONS: all DOMAINS full, DECISIONS told in order, RULES all in THE "
            + "QUEUE, RUNNING.");
        ValuesGo x = check.with("a<b", "b<c");
        x.tell(1, 1008);
        check.due("domain(2): nothing ran yet", x.domain(2), 1023);
        check.due("mixed(0, 2): all ran", x.mixed(0, 2), 992);
        check.due("why(2, 4)", x.why(2, 4), 1);
        check.due("told(1, 4)", x.told(1, 4), 0);
        x.run();
        check.due("domain(2)", x.domain(2), 992);
        check.due("mixed(0, 2): the same again", x.mixed(0, 2), 992);
        x.level();
        x.tell(1, 16);
        check.due("mixed(0, 0): the DECISION counts at once", x.mixed(0, 0), 15);
        x.undo();
        check.due("mixed(0, 0): it is gone", x.mixed(0, 0), 255);
        Check.rule(x, "a>4");
        check.due("mixed(0, 0): a RULE counts at once", x.mixed(0, 0), 0b11100000);
        check.due("told(2, 4)", x.told(2, 4), 0);
    }

    private static void whyOfSome() {
        check.says(0, "WHY of a VALUE: DECISIONS (bits): of all of them one behind another, from the first on, is left out, if FROM "
            + "START with all that are left the VALUE still GOES or all is FAILED; those left.");
        ValuesGo x = check.with("a+b=c", "c<d");
        x.tell(4, 7);
        x.tell(0, 1020);
        x.tell(3, 1023);
        x.tell(1, 1016);
        x.tell(0, 1022);
        // a is 2 to 9, b 3 to 9, c from 5 on, d from 6 on.
        check.due("d's 5: decisions 1 and 3", x.why(3, 5), 0b01010);
        check.due("d's 4: 3 and, from the first on, 4 alone of a's", x.why(3, 4), 0b11000);
        check.due("d's 3: 3 alone", x.why(3, 3), 0b01000);
        check.due("d's 0: none of them", x.why(3, 0), 0);
        check.due("e's 3: 0", x.why(4, 3), 1);
        check.due("d's 6 is there", x.why(3, 6), ValuesGo.NONE);
    }

    private static void whyOfAFailure() {
        check.says(0, "WHY of a failure likewise (FAILED FROM START).");
        ValuesGo x = check.with("a+b<c");
        x.tell(2, 31);
        x.tell(0, 1020);
        x.tell(1, 1022);
        check.due("c is to 4, a from 2, b from 1 on: 3 is below 4", x.why(-1, 0), ValuesGo.NONE);
        x.tell(1, 1020);
        check.due("2 + 2 isn't: all but decision 2", x.why(-1, 0), 0b1011);
        check.due("not failed in truth, as nothing ran", x.count(8), 0);
        x.run();
        check.due("failed", x.count(8), 1);
        check.due("the same", x.why(-1, 0), 0b1011);
    }

    private static void anotherOrder() {
        check.says(0, "MIXED by a SEED: FROM START with all DECISIONS, but of THE QUEUE each time the one at place (z >>> 9) % (how "
            + "many there are) by numbers runs,");
        ValuesGo x = check.with("a+b=c", "c<d", "distinct a b d", "e:a<b", "f*2=d", "g:e>0", "h!a");
        x.tell(3, 0b11111100);
        x.tell(0, 0b1111110);
        ValuesGo y = check.with("a+b=c", "c<d", "distinct a b d", "e:a<b", "f*2=d", "g:e>0", "h!a");
        y.tell(3, 0b11111100);
        y.tell(0, 0b1111110);
        y.run();
        int[] seeds = {0, 1, -1, 12345, 1103515245, Integer.MAX_VALUE, Integer.MIN_VALUE, 511, 512, -512};
        for (int v = 0; v < 8; v++) {
            for (int seed : seeds) {
                check.due("mixed(" + seed + ", " + v + ")", x.mixed(seed, v), y.domain(v));
            }
            check.due("domain(" + v + ") in truth", x.domain(v), v == 3 ? 0b11111100 : v == 0 ? 0b1111110 : 1023);
        }
    }

    private static void triesAreTurnedBack() {
        check.says(0, "else a TRY: the VARIABLE has the VALUE, as a DECISION (there's always room); and it goes on so; turned back, "
            + "all is as ahead of the TRY, the VARIABLE hasn't the VALUE (a DECISION, too), and it goes on.");
        // While a is 1, b has no 2 and e and f are to be like and unlike.
        ValuesGo x = check.told(new int[] {3, 7, 1, 3, 3, 3}, "a+b<3", "d:a>0", "e!f", "(e-f)*(e-f)*d=0");
        // a 1: b 1: e 1 fails, e 0 by the turn, too; b 0 by the turn: e 1 fails, e 0, too; a 0 by the turn: b 2, e 1.
        check.searches(x, 0, 1, 0, 2001000, 6, 4, 0);
        check.searches(x, 0, 1, 1, 2001000, 6, 4, 2);
    }

    private static void pairsAreLeftOut() {
        check.says(0, "PAIRS are those of TRIES that led there (not turned back), the last with them;");
        int[] sets = {7, 3, 7, 7, 3, 3, 1, 3};
        ValuesGo x = check.told(sets, "b+c=d", "c+d!0", "h:a<2", "e!f", "(e-f)*(e-f)*h=0");
        // While a is 0 or 1: b 0: c 0 fails; c 1, e 0 fails, e 1 too; c 2 by the turn, e twice; b 1 by the turn: c 0, e
        // twice; c 1 by the turn, e twice: 9 tries, 9 failures each. Then a 2: b 0: c 0 fails; c 1, e 0.
        check.searches(x, 0, 0, 0, 20110100, 22, 19, 0);
        // b 0 with c 0 is learned at first and, as a try of b wakes it, spares c 0 two times. Of the other failures
        // each teaches a's and e's, eight in all.
        check.searches(x, 0, 0, 1, 20110100, 20, 17, 8);
    }

    private static void pairsFromTheFirstOn() {
        check.says(0, "of these one behind another, from the first on, is left out, if FROM START (without learned ones) with all "
            + "DECISIONS ahead of the SEARCH and the PAIRS that are left all is FAILED still;");
        check.says(0, "by none, if with all of them nothing is FAILED. It comes to THE QUEUE behind the turn.");
        // With a 0 as well as with b 0 d is 1, and e and f are to be like and unlike.
        ValuesGo x = check.told(new int[] {3, 3, 1, 3, 3, 3}, "a+d>0", "b+d>0", "e!f", "(e-f)*(e-f)*d=0");
        // a 0: b 0: e 0 fails, e 1 too; b 1: e twice; a 1: b 0: e twice; b 1: d 0, e 0.
        check.searches(x, 0, 0, 0, 11000100, 8, 6, 0);
        // The first failure teaches b 0 with e 0, as a 0 is left out first; the third a 0 with e 0. Behind a's turn the
        // try of b 0 fails by the first of these; b 0 alone teaches nothing.
        check.searches(x, 0, 0, 1, 11000100, 7, 5, 2);
    }

    private static void allSolutions() {
        check.says(0, "ALL: SOLUTIONS of a SEARCH that turns back behind each, too");
        int due = 0;
        for (int i = 0; i < 1000; i++) {
            due += i / 100 + i / 10 % 10 == i % 10 && i / 100 < i / 10 % 10 ? 1 : 0;
        }
        ValuesGo x = check.told(new int[] {1023, 1023, 1023}, "a+b=c", "a<b");
        check.due("solutions()", x.solutions(), due);
        check.due("solutions() again", x.solutions(), 25);
    }

    private static void leastAndGreatest() {
        check.says(0, "LEAST, GREATEST of a VARIABLE: the first of its VALUES, from 0 on, from 9 on,");
        // Which values are in a solution is reckoned way by way: d is what b has more than a.
        ValuesGo x = check.told(new int[] {0b11111, 0b1111111000, 1023, 1023}, "a+b=c", "b=a+d", "d*2>c", "c!4", "c!6", "c!8");
        int[] least = {10, 10, 10, 10};
        int[] greatest = {-1, -1, -1, -1};
        for (int i = 0; i < 1000; i++) {
            int[] values = {i / 100, i / 10 % 10, i % 10, i / 10 % 10 - i / 100};
            int a = values[0];
            int b = values[1];
            int c = values[2];
            if (a < 5 && b > 2 && a + b == c && values[3] * 2 > c && values[3] >= 0 && c != 4 && c != 6 && c != 8) {
                for (int v = 0; v < 4; v++) {
                    least[v] = Math.min(least[v], values[v]);
                    greatest[v] = Math.max(greatest[v], values[v]);
                }
            }
        }
        for (int v = 0; v < 4; v++) {
            check.due("reach(" + v + ", 0)", x.reach(v, 0), least[v]);
            check.due("reach(" + v + ", 1)", x.reach(v, 1), greatest[v]);
        }
    }

    private static void sheetsTell() {
        check.says(0, "TOLD: a SHEET tells VALUES of VARIABLES 0, 1, .. (8 numbers): CHOICES");
        ValuesGo x = check.told(new int[] {14, 28, 1023}, "c=a+b", "a!b");
        // By the first and the least a 1, b 2, by the greatest a 3, b 4, by the middle a 2, b 4 of 3 and 4.
        int[] due = {12300000, 34700000, 24600000};
        for (int pick = 0; pick < 3; pick++) {
            check.due("film(" + pick + ", 0, " + pick + ")", x.film(pick, 0, pick), 8);
            check.due("search(0, " + pick + ", 0, 0)", x.search(0, pick, 0, 0), due[pick]);
            check.due("told by the first with that", x.tells(pick, 0) >> pick & 1, 1);
            check.due("told by the first with another", x.tells(pick, 0) & 7 & ~(1 << pick), 0);
            check.due("RULES that don't HOLD", x.tells(pick, 1), 0);
            check.due("how many are in their DOMAINS", x.tells(pick, 2), 8);
        }
        x.put(0, 0, 2);
        check.due("a 2, b 2, c 3: neither HOLDS", x.tells(0, 1), 3);
        x.put(0, 0, 9);
        check.due("a 9 is in no DOMAIN", x.tells(0, 2), 7);
    }
}
