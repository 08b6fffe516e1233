/** Promises 1 to 6: a new object, feed, rule, told, holds, taken. */
public final class RulesTest {
    private static final Check check = new Check();

    public static void main(String[] args) {
        newObject();
        feed();
        ruleOfEachKind();
        ruleBlanks();
        ruleFaultsOfTokens();
        ruleFaultsOfPlaces();
        ruleFaultsOfVariables();
        ruleFaultsOfDepth();
        ruleOfAFullTape();
        ruleRefusals();
        told();
        toldWaysAndWent();
        toldIdle();
        holds();
        holdsBySums();
        taken();
        check.close();
    }

    private static void newObject() {
        ValuesGo x = new ValuesGo();
        for (int what = 0; what <= 8; what++) {
            check.due("a new object's count(" + what + ")", x.count(what), 0);
        }
        for (int v = 0; v < 8; v++) {
            check.due("a new object's domain(" + v + ")", x.domain(v), 1023);
        }
        check.due("a new object's step()", x.step(), ValuesGo.NONE);
        check.due("a new object's undo()", x.undo(), ValuesGo.STATE);
        check.due("a new object's back()", x.back(), ValuesGo.STATE);
        check.due("a new object's item(0, 0)", x.item(0, 0), -99999);
        check.due("a new object's put(0, 0, 0)", x.put(0, 0, 0), -11);
        check.due("a new object's told(0, 0)", x.told(0, 0), ValuesGo.BAD);
    }

    private static void feed() {
        ValuesGo x = new ValuesGo();
        check.due("feed(-1)", x.feed(-1), ValuesGo.BAD);
        check.due("feed(256)", x.feed(256), ValuesGo.BAD);
        check.due("count(7) behind what was refused", x.count(7), 0);
        check.due("feed(0)", x.feed(0), 1);
        check.due("feed(255)", x.feed(255), 2);
        for (int i = 3; i <= 90; i++) {
            check.due("feed(32), byte " + i, x.feed(32), i);
        }
        check.due("feed(32) with 90 bytes there", x.feed(32), ValuesGo.FULL);
        check.due("feed(256) with 90 bytes there", x.feed(256), ValuesGo.BAD);
        check.due("count(7) of a full tape", x.count(7), 90);
        check.due("rule() of a full tape with a wrong byte", x.rule(), -100);
        check.due("count(7) behind it", x.count(7), 0);
    }

    private static void due(String text, int want) {
        ValuesGo x = new ValuesGo();
        check.due("rule() of '" + text + "'", Check.rule(x, text), want);
        check.due("bytes of the tape behind '" + text + "'", x.count(7), 0);
        check.due("rules behind '" + text + "'", x.count(0), want >= 0 ? 1 : 0);
        check.due("rules in the queue behind '" + text + "'", x.count(4), want >= 0 ? 1 : 0);
    }

    private static void ruleOfEachKind() {
        due("a<b", 0);
        due("a=1", 0);
        due("a>b+c", 0);
        due("a!b", 0);
        due("1<2", 0);
        due("a:b<c", 0);
        due("a:a<a", 0);
        due("a:1=1", 0);
        due("distinct a b", 0);
        due("distinct h a d", 0);
        due("a+b*c-(a-b)*-c=9999", 0);
        due("0000=a", 0);
        due("a--b=0", 0);
        due("a*-b=0", 0);
        due("(a)=((b))", 0);
        ValuesGo x = new ValuesGo();
        for (int i = 0; i < 4; i++) {
            check.due("rule() number " + i, Check.rule(x, "a<b"), i);
        }
    }

    private static void ruleBlanks() {
        due(" a < b ", 0);
        due("\na\n<\nb\n", 0);
        due("distinct  a\n b", 0);
        due("a : b ! 1", 0);
        due("a\t<b", -101);
        due("a\r<b", -101);
        due("", -100);
        due("   ", -103);
        due("a < ", -104);
        due("a b<c", -102);
        due("12 34<a", -103);
        due("dist inct a b", -100);
        due(" distinct a b", 0);
    }

    private static void ruleFaultsOfTokens() {
        due("A<b", -100);
        due("a<B", -102);
        due("a<b;", -103);
        due("a<$", -102);
        due("i<a", -100);
        due("a<z", -102);
        due("ab<c", -100);
        due("a<ab", -102);
        due("12345<a", -100);
        due("00001<a", -100);
        due("a<10000", -102);
        due("a<9999", 0);
        due("distinctt a b", -100);
        due("distinc a b", -100);
        due("distincx a b", -100);
        due("mistinct a b", -100);
        due("distinct ab", -109);
        due("a<distinct", -102);
        due("a:distinct b c", -102);
        due("2a<1", -101);
        due("a2<1", -101);
        due("a<" + (char) 233, -102);
        due("a<" + (char) 0, -102);
    }

    private static void ruleFaultsOfPlaces() {
        due("a", -101);
        due("a<", -102);
        due("a+", -102);
        due("a+<b", -102);
        due("a<b<c", -103);
        due("a<b:c", -103);
        due("a<b)", -103);
        due("(a<b)", -102);
        due("(a", -102);
        due("a)<b", -101);
        due("()<b", -101);
        due("*a<b", -100);
        due("+a<b", -100);
        due("a**b<c", -102);
        due("a==b", -102);
        due("a!=b", -102);
        due("<b", -100);
        due(":a<b", -100);
        due("a:", -102);
        due("a:b", -103);
        due("a:b:c<1", -103);
        due("1:a<b", -101);
        due("a+b:c<1", -103);
        due("(a):b<1", -103);
        due("-", -101);
        due("-a:b<1", -102);
        due("distinct", -108);
        due("distinct a", -110);
        due("distinct 1 a", -109);
        due("distinct a,b", -110);
        due("distinct a b<c", -112);
        due("distinct a b c d", -115);
        due("distinct a b distinct", -113);
        due("a distinct", -102);
    }

    private static void ruleFaultsOfVariables() {
        due("a+b+c+d<1", -106);
        due("a+b+c<d", -106);
        due("a+b+c<a", 0);
        due("a:b+c<d", -106);
        due("a:b+c<a", 0);
        due("a:b+c+d<1", -106);
        due("distinct a a", -111);
        due("distinct a b a", -113);
        due("distinct a b b", -113);
    }

    private static void ruleFaultsOfDepth() {
        due("(((((a)))))<b", 0);
        due("((((((a", -105);
        due("-----a<b", 0);
        due("------a<b", -105);
        due("-(-(-a))<b", 0);
        due("-(-(-(a", -105);
        due("(((((-a)))))<b", -105);
        due("----(-a)<b", -105);
        due("----(a)-(((((b)))))<c", 0);
        due("(((((a)))))<(((((b)))))", 0);
        due("-----a+-----b<-----c", 0);
        due("(-(-(a+-b", -107);
        due("(-(-(a)+-b))<1", 0);
        due("a-(((((b)))))<1", 0);
    }

    private static void ruleOfAFullTape() {
        // Ninety bytes, each a token of its own: -, a, 42 times +a, <, b, +b.
        String text = "-a" + "+a".repeat(42) + "<b" + "+b";
        check.due("bytes", text.length(), 90);
        due(text, 0);
        so(text, 5, 9, 0, 0);
        so(text, 0, 1, 0, 1);
        so("a*" + "(".repeat(5) + "1" + ")".repeat(5) + "*a".repeat(37) + "!b" + " ", 3, 0, 0, 1);
        due("-a" + "+a".repeat(42) + "<b" + "++", -189);
        due("-a" + "+a".repeat(43) + "<b", 0);
        due("-a" + "+a".repeat(43) + "<", -189);
        due("-a" + "+a".repeat(44), -190);
    }

    private static void ruleRefusals() {
        ValuesGo x = new ValuesGo();
        for (int i = 0; i < 16; i++) {
            check.due("rule() " + i + " of 16", Check.rule(x, "a<9"), i);
        }
        x.run();
        check.due("rule() of a wrong text with 16 rules there", Check.rule(x, "%"), ValuesGo.FULL);
        check.due("the tape behind FULL", x.count(7), 1);
        check.due("tell(0, 0)", x.tell(0, 0), 9);
        check.due("rule() with 16 rules there, failed", x.rule(), ValuesGo.FULL);

        ValuesGo y = new ValuesGo();
        y.level();
        check.due("tell(0, 0)", y.tell(0, 0), 10);
        check.due("rule() of a wrong text, failed", Check.rule(y, "%"), ValuesGo.STATE);
        check.due("the tape behind STATE", y.count(7), 1);
        y.undo();
        check.due("the same text, no more failed", y.rule(), -100);
        check.due("rules behind it", y.count(0), 0);
    }

    private static void told() {
        ValuesGo x = new ValuesGo();
        Check.rule(x, "a<b");
        Check.rule(x, "h:c=1");
        Check.rule(x, "distinct e f g");
        Check.rule(x, "1<2");
        Check.rule(x, "c:c<d+c");
        int[][] due = {{0, 3, 2, 1}, {1, 132, 3, 1}, {2, 112, 5, 1}, {0, 0, 0, 1}, {1, 12, 3, 1}};
        for (int rule = 0; rule < due.length; rule++) {
            for (int what = 0; what < 4; what++) {
                check.due("told(" + rule + ", " + what + ")", x.told(rule, what), due[rule][what]);
            }
        }
        check.due("step()", x.step(), 3);
        check.due("told(3, 3) when it has run", x.told(3, 3), 0);
        check.due("told(0, 3) when another has run", x.told(0, 3), 1);
        check.due("told(-1, 0)", x.told(-1, 0), ValuesGo.BAD);
        check.due("told(5, 0)", x.told(5, 0), ValuesGo.BAD);
        check.due("told(0, -1)", x.told(0, -1), ValuesGo.BAD);
        check.due("told(0, 7)", x.told(0, 7), ValuesGo.BAD);
    }

    private static void toldWaysAndWent() {
        ValuesGo x = new ValuesGo();
        Check.rule(x, "a<b");
        Check.rule(x, "distinct a b c");
        Check.rule(x, "2<1");
        Check.rule(x, "1<2");
        Check.rule(x, "d=4");
        check.due("pairs with a below b", x.told(0, 5), 45);
        check.due("three that are unlike", x.told(1, 5), 720);
        check.due("no variables, does not hold", x.told(2, 5), 0);
        check.due("no variables, holds", x.told(3, 5), 1);
        check.due("one value of ten", x.told(4, 5), 1);
        check.due("tell(0, 3)", x.tell(0, 3), 8);
        check.due("a is 0 or 1: 9 and 8 ways", x.told(0, 5), 17);
        check.due("none went by it yet", x.told(0, 6), 0);
        x.run();
        check.due("b's 0 went by it", x.told(0, 6), 1);
        check.due("d's other nine went by it", x.told(4, 6), 9);
        check.due("none went by what has no variables", x.told(2, 6), 0);
        check.due("count(8)", x.count(8), 0);
        x.tell(3, 0);
        check.due("ways with an empty domain", x.told(4, 5), 0);
        check.due("ways of a rule whose domains have values still", x.told(0, 5), 17);
    }

    private static void toldIdle() {
        ValuesGo x = new ValuesGo();
        Check.rule(x, "a<b");
        Check.rule(x, "b<c");
        Check.rule(x, "a<c");
        Check.rule(x, "1<0");
        Check.rule(x, "d<9");
        Check.rule(x, "d<9");
        check.due("b<c does something", x.told(1, 4), 0);
        check.due("a<c follows", x.told(2, 4), 1);
        check.due("what has no variables does nothing", x.told(3, 4), 1);
        check.due("one of two alike does nothing", x.told(4, 4), 1);
        check.due("nor the other", x.told(5, 4), 1);
        check.due("nothing ran in truth", x.count(5), 0);
        check.due("nothing went in truth", x.count(1), 0);

        ValuesGo y = new ValuesGo();
        Check.rule(y, "a<b");
        Check.rule(y, "a<5");
        Check.rule(y, "b>3");
        check.due("tell(1, 1)", y.tell(1, 1), 9);
        y.run();
        check.due("it fails", y.count(8), 1);
        check.due("b is 0 and b>3: without a<b it fails too", y.told(0, 4), 1);
        check.due("a<5 does nothing where all fails", y.told(1, 4), 1);
        check.due("without b>3 it fails by a<b", y.told(2, 4), 1);

        ValuesGo z = new ValuesGo();
        Check.rule(z, "a<b");
        check.due("tell(1, 1)", z.tell(1, 1), 9);
        z.run();
        check.due("the one rule by which it fails", z.told(0, 4), 0);
    }

    private static void holds() {
        ValuesGo x = new ValuesGo();
        Check.rule(x, "h<b");
        Check.rule(x, "c:a<b");
        Check.rule(x, "distinct g c e");
        Check.rule(x, "1<2");
        Check.rule(x, "2<1");
        Check.rule(x, "a=7");
        check.due("b 5, h 3: h<b", x.holds(0, 5, 3, -1), 1);
        check.due("b 3, h 5: h<b", x.holds(0, 3, 5, 10), 0);
        check.due("a 1, b 2, c 1", x.holds(1, 1, 2, 1), 1);
        check.due("a 1, b 2, c 0", x.holds(1, 1, 2, 0), 0);
        check.due("a 2, b 1, c 0", x.holds(1, 2, 1, 0), 1);
        check.due("a 2, b 1, c 1", x.holds(1, 2, 1, 1), 0);
        check.due("a 1, b 2, c 2", x.holds(1, 1, 2, 2), 0);
        check.due("a 2, b 1, c 9", x.holds(1, 2, 1, 9), 0);
        check.due("unlike", x.holds(2, 1, 2, 3), 1);
        check.due("first and last alike", x.holds(2, 1, 2, 1), 0);
        check.due("last two alike", x.holds(2, 3, 2, 2), 0);
        check.due("no variables, holds", x.holds(3, -5, 99, -7), 1);
        check.due("no variables, does not", x.holds(4, -5, 99, -7), 0);
        check.due("one variable", x.holds(5, 7, -1, -1), 1);
        check.due("one variable, other value", x.holds(5, 8, -1, -1), 0);
        check.due("rule -1", x.holds(-1, 0, 0, 0), ValuesGo.BAD);
        check.due("rule 6", x.holds(6, 0, 0, 0), ValuesGo.BAD);
        check.due("x -1", x.holds(0, -1, 0, 0), ValuesGo.BAD);
        check.due("y 10", x.holds(0, 0, 10, 0), ValuesGo.BAD);
        check.due("z 10 of three", x.holds(1, 0, 0, 10), ValuesGo.BAD);
        check.due("z -1 of three", x.holds(2, 0, 1, -1), ValuesGo.BAD);
        check.due("x 10 of one", x.holds(5, 10, 0, 0), ValuesGo.BAD);
    }

    private static void so(String text, int x, int y, int z, int want) {
        ValuesGo v = new ValuesGo();
        Check.rule(v, text);
        check.due("'" + text + "' for " + x + ", " + y + ", " + z, v.holds(0, x, y, z), want);
    }

    private static void holdsBySums() {
        so("a+b*c=7", 1, 2, 3, 1);
        so("a*b+c=5", 1, 2, 3, 1);
        so("(a+b)*c=9", 1, 2, 3, 1);
        so("a-b-c=4", 9, 3, 2, 1);
        so("a-(b-c)=8", 9, 3, 2, 1);
        so("-a*b=-6", 2, 3, 0, 1);
        so("-(a+b)=0-5", 2, 3, 0, 1);
        so("--a=a", 4, 0, 0, 1);
        so("a--b=5", 2, 3, 0, 1);
        so("a*-b=-6", 2, 3, 0, 1);
        so("a!b", 2, 2, 0, 0);
        so("a!b", 2, 3, 0, 1);
        so("a>b", 3, 2, 0, 1);
        so("a>b", 2, 2, 0, 0);
        so("a<b", 2, 2, 0, 0);
        so("-a<0", 1, 0, 0, 1);
        so("0012=a+b", 5, 7, 0, 1);
        // 9 * 9999 * 9999 is 899820009; 3 times it is an int below 0, 5 times it is 204132749.
        so("9*9999*9999*a>0", 2, 0, 0, 1);
        so("9*9999*9999*a>0", 3, 0, 0, 0);
        so("9*9999*9999*a>0", 5, 0, 0, 1);
        // 8192 * 8192 * 64 is 2 to the 32nd.
        so("8192*8192*64*a=0", 7, 0, 0, 1);
        so("8192*8192*32<0", 0, 0, 0, 1);
        so("-(8192*8192*32)<0", 0, 0, 0, 1);
        so("8192*8192*32-1>0", 0, 0, 0, 1);
    }

    private static void taken() {
        ValuesGo x = new ValuesGo();
        Check.rule(x, "a<b");
        Check.rule(x, "a:b<c");
        Check.rule(x, "distinct a b");
        Check.rule(x, "1<2");
        int[][] due = {{2, -13, -13}, {3, 3, -13}, {-13, -13, 2}, {0, -13, -13}};
        for (int rule = 0; rule < 4; rule++) {
            for (int k = 0; k < 3; k++) {
                check.due("taken(" + rule + ", " + k + ")", x.taken(rule, k), due[rule][k]);
            }
        }
        check.due("taken(0, 3)", x.taken(0, 3), ValuesGo.BAD);
        check.due("taken(0, -1)", x.taken(0, -1), ValuesGo.BAD);
        check.due("taken(9, 3)", x.taken(9, 3), ValuesGo.BAD);
        check.due("taken(4, 0)", x.taken(4, 0), -11);
        check.due("taken(-1, 0)", x.taken(-1, 0), -11);
    }
}
