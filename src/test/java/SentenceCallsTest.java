/** The sentences of the promises that name no edge: what each call answers of ordinary numbers. */
public final class SentenceCallsTest {
    private static final Check check = new Check();

    public static void main(String[] args) {
        told();
        holds();
        tell();
        step();
        level();
        searchWhats();
        reachWhats();
        tellsWhats();
        item();
        load();
        check.close();
    }

    private static void told() {
        check.says(4, "Of a RULE: KIND (what 0), VARIABLES (1; bits), PRIORITY (2), whether it is in THE QUEUE (3; 1, 0), whether it "
            + "is IDLE (4; 1, 0), for how many ways its VARIABLES can have VALUES of their DOMAINS it HOLDS (5), how many VALUES "
            + "went by it, of THE TRAIL (6). BAD.");
        ValuesGo x = check.with("b<d", "a:b<d", "distinct d b", "h=3", "b<9", "distinct f g h");
        int[][] first = {{0, 10, 2, 1, 0, 45, 0}, {1, 11, 4, 1, 0, 100, 0}, {2, 10, 4, 1, 1, 90, 0}, {0, 128, 1, 1, 0, 1, 0},
            {0, 2, 1, 1, 1, 9, 0}, {2, 224, 5, 1, 0, 720, 0}};
        toldIs(x, first);
        check.due("run(): 3, 4, 0, 1, 2, 5", x.run(), 6);
        // b is 0 to 8, d 1 to 9, a 0 or 1, as its RULE alone doesn't see that b<d holds; h is 3, f and g are not.
        int[][] then = {{0, 10, 2, 0, 0, 45, 1}, {1, 11, 4, 0, 0, 81, 8}, {2, 10, 4, 0, 1, 73, 0}, {0, 128, 1, 0, 0, 1, 9},
            {0, 2, 1, 0, 1, 9, 1}, {2, 224, 5, 0, 0, 72, 2}};
        toldIs(x, then);
    }

    private static void toldIs(ValuesGo x, int[][] due) {
        for (int rule = 0; rule < due.length; rule++) {
            for (int what = 0; what < 7; what++) {
                check.due("told(" + rule + ", " + what + ")", x.told(rule, what), due[rule][what]);
            }
        }
    }

    private static void holds() {
        check.says(5, "Whether a RULE HOLDS for x, y, z as VALUES of its VARIABLES by numbers (more than it has don't matter): 1, 0. "
            + "BAD.");
        // By numbers b, d, g, not as they stand in the text.
        ValuesGo x = check.with("g-d=b");
        check.due("b 1, d 2, g 3", x.holds(0, 1, 2, 3), 1);
        check.due("b 3, d 2, g 1", x.holds(0, 3, 2, 1), 0);
        x.tell(1, 0);
        check.due("DOMAINS don't matter", x.holds(0, 1, 2, 3), 1);
    }

    private static void tell() {
        check.says(7, "A DECISION is TOLD: how many VALUES went.");
        ValuesGo x = new ValuesGo();
        int[] sets = {1022, 511, 0b0111111110, 0b0011001100, 0b1111111111, 0b0010000100, 0b0000000100};
        int[] due = {1, 1, 0, 4, 0, 2, 1};
        for (int i = 0; i < sets.length; i++) {
            int went = x.count(1);
            check.due("tell(4, " + sets[i] + ")", x.tell(4, sets[i]), due[i]);
            check.due("more in THE TRAIL", x.count(1) - went, due[i]);
            check.due("count(2)", x.count(2), i + 1);
        }
        check.due("domain(4)", x.domain(4), 4);
    }

    private static void step() {
        check.says(8, "A RUN: which RULE.");
        ValuesGo x = check.with("distinct a b", "a=3", "b<4");
        int[] due = {1, 2, 0};
        for (int i = 0; i < due.length; i++) {
            check.due("step()", x.step(), due[i]);
            check.due("count(5)", x.count(5), i + 1);
        }
        check.due("domain(1)", x.domain(1), 7);
        x.tell(1, 6);
        check.due("b's RULES are to run again", x.step(), 2);
        check.due("b's RULES are to run again", x.step(), 0);
        check.due("none is", x.step(), ValuesGo.NONE);
        check.due("count(5)", x.count(5), 5);
    }

    private static void level() {
        check.says(10, "A LEVEL is opened: how many there are.");
        ValuesGo x = new ValuesGo();
        for (int i = 1; i < 6; i++) {
            check.due("level()", x.level(), i);
            check.due("count(3)", x.count(3), i);
            x.tell(i, 1);
        }
        x.undo();
        x.undo();
        check.due("level(): three and this one", x.level(), 4);
    }

    private static void searchWhats() {
        check.says(17, "how many TRIES (1), how often all was FAILED (2; 1, if it is so already ahead), how many were learned (3).");
        // b's try leaves c and d the same one value: each b fails, until a is 1.
        ValuesGo x = check.told(new int[] {3, 3, 3, 3}, "c!d", "a>(c-d)*(c-d)-1");
        // a 0: b 0: c 0 fails, c 1 by the turn, too; b 1 by the turn: c 0, c 1; a 1 by the turn: b 0, c 0.
        check.searches(x, 0, 0, 0, 10010000, 6, 4, 0);
        // Learned: a 0 with c 0, two times.
        check.searches(x, 0, 0, 1, 10010000, 6, 4, 2);
    }

    private static void reachWhats() {
        check.says(19, "LEAST (what 0), GREATEST (1) of a VARIABLE;");
        ValuesGo x = check.with("a+b=9", "a-b=3", "c*c=d", "e<f", "f<g");
        int[] least = {6, 3, 0, 0, 0, 1, 2, 0};
        int[] greatest = {6, 3, 3, 9, 7, 8, 9, 9};
        for (int v = 0; v < 8; v++) {
            check.due("reach(" + v + ", 0)", x.reach(v, 0), least[v]);
            check.due("reach(" + v + ", 1)", x.reach(v, 1), greatest[v]);
        }
    }

    private static void tellsWhats() {
        check.says(20, "TOLD: CHOICES (what 0), RULES (1), how many are in their DOMAINS (2).");
        ValuesGo x = check.told(new int[] {6, 12}, "a<b", "c:a=1", "a+b=5", "g=0");
        Check.show(x, 3, 0, 1, 3, 1, 0, 0, 0, 0, 0);
        check.due("tells(3, 0): 1 and 3 are no 5, and c is 0", x.tells(3, 0), 0);
        check.due("tells(3, 1)", x.tells(3, 1), 4);
        check.due("tells(3, 2): all but c's", x.tells(3, 2), 7);
        Check.show(x, 3, 0, 2, 3, 0, 0, 0, 0, 0, 0);
        check.due("tells(3, 0): it is all that can be", x.tells(3, 0), 0b111_111_111_111);
        check.due("tells(3, 1)", x.tells(3, 1), 0);
        check.due("tells(3, 2)", x.tells(3, 2), 8);
    }

    private static void item() {
        check.says(27, "Item i of a SHEET.");
        ValuesGo x = new ValuesGo();
        for (int sheet = 0; sheet < 4; sheet++) {
            x.sheet(sheet, sheet % 3, 40);
            for (int i = 0; i < 40; i++) {
                x.put(sheet, i, 3 * i - 40 + sheet);
            }
        }
        for (int i = 0; i < 160; i++) {
            check.due("item(" + i / 40 + ", " + i % 40 + ")", x.item(i / 40, i % 40), 3 * (i % 40) - 40 + i / 40);
        }
    }

    private static void load() {
        check.says(29, "DECISIONS by a SHEET that is taken for one of a sort: from one on, two by two (as of tell()), n of them (0 .. "
            + "8): how many were TOLD (others are left out).");
        for (int sort = 0; sort < 3; sort++) {
            ValuesGo x = check.with("b<c");
            Check.show(x, 2, sort, -5, 1, 96, 9, 3, 5, 70, 2, 127);
            check.due("load(2, " + sort + ", 1, 4): there is no VARIABLE 9", x.load(2, sort, 1, 4), 3);
            int[] due = {1, 96, 5, 70, 2, 127};
            for (int i = 0; i < 6; i++) {
                check.due("decision(" + i / 2 + ", " + i % 2 + ")", x.decision(i / 2, i % 2), due[i]);
            }
            check.due("domain(1)", x.domain(1), 96);
            check.due("domain(2)", x.domain(2), 127);
            check.due("domain(5)", x.domain(5), 70);
            check.due("what went by the second", x.trail(8, 1), 101);
            check.due("b<c is to run", x.told(0, 3), 1);
        }
    }
}
