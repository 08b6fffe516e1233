/** Promises 20 to 24: tells, film, image, back, count. */
public final class ToldTest {
    private static final Check check = new Check();

    public static void main(String[] args) {
        tellsChoices();
        tellsRules();
        tellsDomains();
        tellsRefusals();
        film();
        filmRefusals();
        image();
        imageKeepsTheQueue();
        imageKeepsFailure();
        imageKeepsLevels();
        imageKeepsRules();
        imageKeepsNoMore();
        back();
        count();
        check.close();
    }

    private static void tellsChoices() {
        ValuesGo x = new ValuesGo();
        Check.show(x, 0, 0, 0, 0, 0, 0, 0, 0, 0, 0);
        check.due("the least of each", x.tells(0, 0), 0b001_001_001_001);
        Check.show(x, 1, 0, 9, 9, 9, 9, 9, 9, 9, 9);
        check.due("the greatest of each", x.tells(1, 0), 0b010_010_010_010);
        Check.show(x, 2, 0, 5, 5, 5, 5, 5, 5, 5, 5);
        check.due("the one in the middle", x.tells(2, 0), 0b100_100_100_100);
        Check.show(x, 3, 0, 5, 5, 5, 5, 5, 5, 5, 6);
        check.due("none such", x.tells(3, 0), 0);

        // Of a 0 to 3, b 1 2, c 2 3 with c>b: a is free; by the greatest all come to 3, 2, 3.
        ValuesGo y = check.told(new int[] {15, 6, 14}, "c>b");
        Check.show(y, 0, 0, 3, 2, 3, 0, 0, 0, 0, 0);
        // In the middle: a 2 of four, b 2 of two, so c 3.
        check.due("greatest by all", y.tells(0, 0), 0b010_010_010_010);
        Check.show(y, 0, 0, 2, 2, 3, 0, 0, 0, 0, 0);
        check.due("in the middle by all", y.tells(0, 0), 0b100_100_100_100);
        check.due("nothing went in truth", y.count(5), 0);

        // a 5 and b 4 are all that can be; c's and d's least are 0 and 1.
        ValuesGo z = check.with("a+b=9", "a-b=1", "c<d");
        Check.show(z, 0, 0, 5, 4, 0, 1, 0, 0, 0, 0);
        check.due("the least by all", z.tells(0, 0), 0b001_001_001_001);
        z.tell(4, 0);
        check.due("by none when all is failed", z.tells(0, 0), 0);

        // A search that is dear finds nothing: by the first with its least, and by most rules d and then a, b, e.
        ValuesGo d = check.hard(50);
        check.due("dear", d.search(0, 0, 0, 0), ValuesGo.DEAR);
        Check.show(d, 0, 0, 5, 0, 0, 0, 0, 1, 0, 0);
        check.due("by the first it is dear; by the fewest and by most rules d's 0 is first", d.tells(0, 0) & 1, 0);
        check.due("by the fewest", d.search(1, 0, 0, 0), 50000100);
        check.due("bit 3 is of the fewest with the least", d.tells(0, 0) >> 3 & 1, 1);
    }

    private static void tellsRules() {
        ValuesGo x = check.with("a<b", "c:a<b", "distinct a d e", "1<0", "h=9", "0<1");
        Check.show(x, 0, 0, 1, 2, 1, 3, 4, 0, 0, 9);
        check.due("but what can't hold", x.tells(0, 1), 0b001000);
        Check.show(x, 0, 0, 2, 1, 1, 2, 4, 0, 0, 8);
        check.due("but the last", x.tells(0, 1), 0b011111);
        Check.show(x, 0, 0, 2, 1, 0, 4, 4, 0, 0, 9);
        check.due("the reified one holds", x.tells(0, 1), 0b001101);
        check.due("no rules", emptyTells(), 0);
    }

    private static int emptyTells() {
        ValuesGo x = new ValuesGo();
        Check.show(x, 0, 0, 0, 0, 0, 0, 0, 0, 0, 0);
        return x.tells(0, 1);
    }

    private static void tellsDomains() {
        ValuesGo x = check.with("a<b");
        x.tell(7, 512);
        Check.show(x, 0, 0, 9, 0, 0, 0, 0, 0, 0, 0);
        check.due("all but h's", x.tells(0, 2), 7);
        x.run();
        check.due("now a's and b's are none either", x.tells(0, 2), 5);
        Check.show(x, 0, 0, 0, 1, 0, 0, 0, 0, 0, 9);
        check.due("all", x.tells(0, 2), 8);
        x.tell(0, 0);
        check.due("an empty domain has none", x.tells(0, 2), 7);
    }

    private static void tellsRefusals() {
        ValuesGo x = new ValuesGo();
        Check.show(x, 0, 0, 0, 0, 0, 0, 0, 0, 0, 0);
        check.due("tells(-1, 0)", x.tells(-1, 0), ValuesGo.BAD);
        check.due("tells(4, 0)", x.tells(4, 0), ValuesGo.BAD);
        check.due("tells(0, -1)", x.tells(0, -1), ValuesGo.BAD);
        check.due("tells(0, 3)", x.tells(0, 3), ValuesGo.BAD);
        check.due("tells(1, 3)", x.tells(1, 3), ValuesGo.BAD);
        check.due("tells(1, 0)", x.tells(1, 0), -11);
        Check.show(x, 1, 0, 0, 0, 0, 0, 0, 0, 0);
        check.due("seven numbers", x.tells(1, 2), ValuesGo.BAD);
        Check.show(x, 1, 0, 0, 0, 0, 0, 0, 0, 0, 0, 0);
        check.due("nine numbers", x.tells(1, 2), ValuesGo.BAD);
        x.sheet(1, 0, 0);
        check.due("no numbers", x.tells(1, 2), ValuesGo.BAD);
        Check.show(x, 1, 0, 0, 0, 0, 0, 0, 0, 0, 10);
        check.due("a 10", x.tells(1, 2), ValuesGo.BAD);
        Check.show(x, 1, 0, -1, 0, 0, 0, 0, 0, 0, 0);
        check.due("a -1", x.tells(1, 1), ValuesGo.BAD);
        x.sheet(1, 2, 8);
        x.put(1, 3, 256 + 7);
        check.due("eight bytes", x.tells(1, 2), 8);
        x.sheet(1, 1, 8);
        check.due("eight shorts", x.tells(1, 2), 8);
    }

    private static void film() {
        ValuesGo x = check.with("a+b=9", "a-b=1", "c<d");
        x.sheet(2, 2, 3);
        check.due("film(2, 0, 0)", x.film(2, 0, 0), 8);
        int[] due = {5, 4, 0, 1, 0, 0, 0, 0};
        for (int i = 0; i < 8; i++) {
            check.due("item(2, " + i + ")", x.item(2, i), due[i]);
        }
        check.due("item(2, 8)", x.item(2, 8), -99999);
        check.due("they are ints", x.put(2, 0, 1 << 20), 1);
        check.due("item(2, 0)", x.item(2, 0), 1 << 20);
        check.due("film(0, 0, 1)", x.film(0, 0, 1), 8);
        check.due("by the greatest, c's", x.item(0, 2), 8);
        check.due("by the greatest, h's", x.item(0, 7), 9);
        check.due("only the sheet was changed", x.count(5) + x.count(1) + x.count(2), 0);
    }

    private static void filmRefusals() {
        ValuesGo x = check.with("a<a");
        x.sheet(0, 2, 3);
        x.put(0, 1, 77);
        check.due("film() of none", x.film(0, 0, 0), ValuesGo.NONE);
        check.due("the sheet stays", x.item(0, 1), 77);
        check.due("and its size", x.item(0, 3), -99999);
        check.due("film(-1, 0, 0)", x.film(-1, 0, 0), ValuesGo.BAD);
        check.due("film(4, 0, 0)", x.film(4, 0, 0), ValuesGo.BAD);
        check.due("film(0, -1, 0)", x.film(0, -1, 0), ValuesGo.BAD);
        check.due("film(0, 4, 0)", x.film(0, 4, 0), ValuesGo.BAD);
        check.due("film(0, 0, -1)", x.film(0, 0, -1), ValuesGo.BAD);
        check.due("film(0, 0, 3)", x.film(0, 0, 3), ValuesGo.BAD);
        ValuesGo y = check.hard(50);
        check.due("film() that is dear", y.film(0, 0, 0), ValuesGo.DEAR);
        check.due("the sheet stays missing", y.item(0, 0), -99999);
    }

    private static void image() {
        ValuesGo x = check.with("a<b");
        check.due("image() of nothing gone", x.image(), 0);
        x.tell(3, 7);
        x.run();
        check.due("image()", x.image(), 9);
        x.tell(0, 1);
        x.tell(4, 3);
        check.due("values gone", x.count(1), 25);
        check.due("back()", x.back(), 9);
        check.due("decisions", x.count(2), 1);
        check.due("decision(0, 1)", x.decision(0, 1), 7);
        check.due("domain(0)", x.domain(0), 511);
        check.due("domain(4)", x.domain(4), 1023);
        check.due("trail(0, 0)", x.trail(0, 0), 33);
        check.due("trail(8, 0)", x.trail(8, 0), 10);
        check.due("trail(8, 1)", x.trail(8, 1), 0);
        check.due("trail(9, 0)", x.trail(9, 0), -12);
        x.tell(3, 1);
        check.due("back() a second time", x.back(), 9);
        check.due("domain(3)", x.domain(3), 7);
    }

    private static void imageKeepsTheQueue() {
        ValuesGo x = check.with("a<b", "c<d", "e<f");
        x.step();
        x.image();
        x.run();
        check.due("runs", x.count(5), 3);
        x.back();
        check.due("runs are as in the image", x.count(5), 1);
        check.due("rules to run", x.count(4), 2);
        check.due("told(0, 3)", x.told(0, 3), 0);
        check.due("told(2, 3)", x.told(2, 3), 1);
        check.due("step()", x.step(), 1);
    }

    private static void imageKeepsFailure() {
        ValuesGo x = check.with("a<b");
        x.run();
        x.image();
        x.tell(0, 0);
        check.due("failed", x.count(8), 1);
        check.due("back()", x.back(), 2);
        check.due("failed no more", x.count(8), 0);
        x.level();
        x.tell(1, 1);
        check.due("failed", x.count(8), 1);
        check.due("image()", x.image(), 11);
        check.due("undo()", x.undo(), 9);
        check.due("failed no more", x.count(8), 0);
        check.due("back()", x.back(), 11);
        check.due("failed again", x.count(8), 1);
        check.due("tell()", x.tell(5, 1), ValuesGo.STATE);
        check.due("levels", x.count(3), 1);
    }

    private static void imageKeepsLevels() {
        ValuesGo x = check.with("a<b");
        x.run();
        x.level();
        x.tell(7, 1);
        x.level();
        x.tell(6, 1);
        x.image();
        x.undo();
        x.undo();
        x.tell(5, 1);
        x.level();
        x.tell(4, 1);
        check.due("levels", x.count(3), 1);
        check.due("back()", x.back(), 20);
        check.due("levels", x.count(3), 2);
        check.due("decision(0, 0)", x.decision(0, 0), 7);
        check.due("decision(1, 0)", x.decision(1, 0), 6);
        check.due("undo()", x.undo(), 9);
        check.due("domain(6)", x.domain(6), 1023);
        check.due("decisions", x.count(2), 1);
        check.due("undo()", x.undo(), 9);
        check.due("domain(7)", x.domain(7), 1023);
        check.due("undo()", x.undo(), ValuesGo.STATE);
    }

    private static void imageKeepsRules() {
        ValuesGo x = check.with("a<b");
        x.run();
        x.image();
        Check.rule(x, "distinct c d e");
        Check.rule(x, "f=9");
        x.run();
        check.due("rules", x.count(0), 3);
        check.due("back()", x.back(), 2);
        check.due("rules", x.count(0), 1);
        check.due("told(1, 0)", x.told(1, 0), ValuesGo.BAD);
        check.due("domain(5)", x.domain(5), 1023);
        x.tell(2, 1);
        check.due("a rule that is gone is not to run", x.count(4), 0);
        check.due("rule() takes the number that is free again", Check.rule(x, "g:h<5"), 1);
        check.due("its variables", x.told(1, 1), 192);
        check.due("its kind", x.told(1, 0), 1);
        x.run();
        x.tell(4, 3);
        check.due("the old one's variables wake it not", x.count(4), 0);
        x.tell(6, 1);
        check.due("its own do", x.told(1, 3), 1);
        x.run();
        check.due("domain(7)", x.domain(7), 992);
        check.due("search() by most rules goes by what is there", x.search(3, 0, 0, 0), 1_000005);
    }

    private static void imageKeepsNoMore() {
        ValuesGo x = new ValuesGo();
        Check.feed(x, "a<");
        x.sheet(0, 0, 2);
        x.image();
        x.feed('b');
        x.put(0, 1, 5);
        check.due("back()", x.back(), 0);
        check.due("the tape is as it was ahead of it", x.count(7), 3);
        check.due("rule()", x.rule(), 0);
        check.due("sheets are as they were ahead of it", x.item(0, 1), 5);
    }

    private static void back() {
        ValuesGo x = check.with("a<b");
        check.due("back() without an image", x.back(), ValuesGo.STATE);
        check.due("nothing was changed", x.count(0) + x.count(4), 2);
    }

    private static void count() {
        ValuesGo x = check.with("a<b", "c=5");
        Check.feed(x, "a=");
        x.run();
        x.level();
        x.tell(7, 3);
        x.tell(0, 16);
        int[] due = {2, 27, 2, 1, 1, 2, 2, 2, 0};
        for (int what = 0; what < 9; what++) {
            check.due("count(" + what + ")", x.count(what), due[what]);
        }
        check.due("count(-1)", x.count(-1), ValuesGo.BAD);
        check.due("count(9)", x.count(9), ValuesGo.BAD);
        x.tell(1, 0);
        check.due("count(8) when all is failed", x.count(8), 1);
        check.due("an empty domain is not settled", x.count(6), 2);
    }
}
