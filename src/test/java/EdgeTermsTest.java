/** The edges that the document names ahead of the promises: how texts are read, what holds, how sums wrap. */
public final class EdgeTermsTest {
    private static final Check check = new Check();

    public static void main(String[] args) {
        theLastOfAllCalls();
        oneHallBehindAnother();
        variablesOfTexts();
        valuesOfSums();
        settled();
        wordsAreAsLongAsCanBe();
        numbersAreAsLongAsCanBe();
        numbersOfFourDigits();
        everyByteBetween();
        everyByteAtTheEnd();
        everySign();
        nothingOfAnEarlierText();
        textsOfAFullTape();
        faultOfTheFirst();
        faultOfTheEnd();
        faultOfAFourthVariable();
        faultOfDistinct();
        faultOfSixOpen();
        noFaultOfFiveOpen();
        aBracketIsOpenTillItsEnd();
        aMinusIsOpenTillItsOneEnds();
        theNameIsOneLetter();
        sumsWrap();
        sumsAreComparedAsInts();
        comparisonsAtEquals();
        reifiedIsOneOrNought();
        distinctOfTwoAndThree();
        priorityByHowMany();
        check.close();
    }

    private static void due(String text, int want) {
        check.due("rule() of '" + text + "'", Check.rule(new ValuesGo(), text), want);
    }

    private static void holds(String text, int x, int y, int z, int want) {
        ValuesGo v = check.with(text);
        check.due("'" + text + "' for " + x + ", " + y + ", " + z, v.holds(0, x, y, z), want);
    }

    // ---- what it is

    private static void theLastOfAllCalls() {
        check.says(0, "An object is used for at most 512 calls after it has been made");
        ValuesGo x = new ValuesGo();
        check.due("rule(), call 4", Check.rule(x, "a<b"), 0);
        check.due("run(), call 5", x.run(), 1);
        for (int calls = 5; calls < 510; calls += 5) {
            check.due("level(), call " + (calls + 1), x.level(), 1);
            check.due("tell(1, 2), call " + (calls + 2), x.tell(1, 2), 8);
            check.due("run(), call " + (calls + 3), x.run(), 1);
            check.due("undo(), call " + (calls + 4), x.undo(), 16);
            check.due("domain(0), call " + (calls + 5), x.domain(0), 511);
        }
        check.due("count(5), call 511", x.count(5), 102);
        check.due("search(0, 0, 0, 0), call 512", x.search(0, 0, 0, 0), 1_000000);
    }

    private static void oneHallBehindAnother() {
        check.says(0, "One hall is there at a time: of one nothing is asked any more, once another was made.");
        ValuesGo x = check.with("a<b", "c!d");
        x.run();
        x.level();
        x.tell(0, 3);
        Check.show(x, 0, 2, 1, 2, 3);
        x.image();
        x.search(0, 0, 1, 0);
        Check.feed(x, "a<");
        ValuesGo y = new ValuesGo();
        for (int what = 0; what < 9; what++) {
            check.due("count(" + what + ") of another", y.count(what), 0);
        }
        for (int v = 0; v < 8; v++) {
            check.due("domain(" + v + ") of another", y.domain(v), 1023);
        }
        check.due("item(0, 0) of another", y.item(0, 0), -99999);
        check.due("back() of another", y.back(), ValuesGo.STATE);
        check.due("undo() of another", y.undo(), ValuesGo.STATE);
        check.due("search() of another", y.search(0, 0, 1, 0), 0);
    }

    // ---- 1

    private static void variablesOfTexts() {
        check.says(0, "VARIABLES are 0 .. 7 (in texts a .. h), VALUES 0 .. 9;");
        for (int v = 0; v < 8; v++) {
            ValuesGo x = check.with((char) ('a' + v) + "=9");
            check.due("the VARIABLE of " + (char) ('a' + v), x.told(0, 1), 1 << v);
            x.run();
            check.due("its DOMAIN", x.domain(v), 512);
        }
        due("i=9", -100);
        due("`=9", -100);
        due("a:i=9", -102);
        due("distinct a i", -111);
        due("distinct h g", 0);
    }

    private static void valuesOfSums() {
        check.says(0, "VALUES 0 .. 9; each VARIABLE has a DOMAIN, a set of VALUES (bits; all at first);");
        String[] texts = {"a=0", "a=9", "a=10", "a=-1", "a<0", "a<1", "a>8", "a>9", "a>-1", "a<10", "a!9", "a!10"};
        int[] domains = {1, 512, 0, 0, 0, 1, 512, 0, 1023, 1023, 511, 1023};
        for (int i = 0; i < texts.length; i++) {
            ValuesGo x = check.with(texts[i]);
            x.run();
            check.due("the DOMAIN behind '" + texts[i] + "'", x.domain(0), domains[i]);
            check.due("FAILED behind '" + texts[i] + "'", x.count(8), domains[i] == 0 ? 1 : 0);
        }
    }

    private static void settled() {
        check.says(0, "it is SETTLED, if that has just one.");
        ValuesGo x = new ValuesGo();
        check.due("of ten each", x.count(6), 0);
        x.tell(0, 3);
        check.due("of two", x.count(6), 0);
        x.tell(0, 2);
        check.due("of one", x.count(6), 1);
        for (int v = 1; v < 8; v++) {
            x.tell(v, 512);
            check.due("one more", x.count(6), v + 1);
        }
        x.tell(7, 0);
        check.due("of none", x.count(6), 7);
    }

    // ---- texts

    private static void wordsAreAsLongAsCanBe() {
        check.says(0, "TOKENS, each as long as can be: WORDS (a .. z),");
        due("ab<1", -100);
        due("az<1", -100);
        due("za<1", -100);
        due("hz<1", -100);
        due("a b<1", -102);
        due("a<bc", -102);
        due("a<1b", -103);
        due("a<b1", -103);
        due("distincta b", -100);
        due("distinct ab", -109);
        due("distinct a b1", -112);
        due("a:distinct", -102);
    }

    private static void numbersAreAsLongAsCanBe() {
        check.says(0, "NUMBERS (digits, as many as stand there, 0 ahead of others, too; more than 4 are too long)");
        due("a<12345", -102);
        due("a<1234 5", -107);
        due("a<1 2345", -104);
        due("a<00000", -102);
        due("00001<a", -100);
        due("a+123456789<1", -102);
        due("1".repeat(90), -100);
        due("a<" + "0".repeat(88), -102);
    }

    private static void numbersOfFourDigits() {
        check.says(0, "0 ahead of others, too; more than 4 are too long");
        due("a<9999", 0);
        due("a<0000", 0);
        due("0009=a", 0);
        holds("0009=a", 9, 0, 0, 1);
        holds("0010=a", 8, 0, 0, 0);
        holds("a+9990=9999", 9, 0, 0, 1);
        holds("a+9991=9999", 9, 0, 0, 0);
    }

    private static boolean isBlank(int b) {
        return b == 32 || b == 10;
    }

    private static boolean isDigit(int b) {
        return b >= '0' && b <= '9';
    }

    private static void everyByteBetween() {
        check.says(0, "SIGNS ( ) : + - * < = > ! ; blanks (32, 10) may stand between.");
        for (int b = 0; b < 256; b++) {
            // A letter makes the WORD another one, behind some SIGNS the < can't stand, else the byte can't.
            int fault = b >= 'a' && b <= 'z' ? -100 : b != 0 && ":+-*<=>!".indexOf(b) >= 0 ? -102 : -101;
            due("a" + (char) b + "<1", isBlank(b) ? 0 : fault);
        }
    }

    private static void everyByteAtTheEnd() {
        check.says(0, "(the text's size, if it ends too early), also of a byte that begins none, a WORD that is none such,");
        for (int b = 0; b < 256; b++) {
            boolean one = isDigit(b) || b >= 'a' && b <= 'h';
            boolean more = isBlank(b) || b == '-' || b == '(';
            due("a <" + (char) b, one ? 0 : more ? -104 : -103);
            boolean between = b == '+' || b == '-' || b == '*';
            due("a<1" + (char) b, isBlank(b) || isDigit(b) ? 0 : between ? -104 : -103);
        }
    }

    private static void everySign() {
        check.says(0, "TEST: SUM, one of < = > ! , SUM. SUM: TERM { + or - TERM }. TERM: ONE { * ONE }.");
        due("h:(a)+1-2*3<b", 0);
        due("h:(a)+1-2*3=b", 0);
        due("h:(a)+1-2*3>b", 0);
        due("h:(a)+1-2*3!b", 0);
        due("a<=b", -102);
        due("a!=b", -102);
        due("a<b>c", -103);
        due("a=b;", -103);
        due("a;b", -101);
        due("a/b=1", -101);
        due("a?b", -101);
    }

    private static void nothingOfAnEarlierText() {
        check.says(3, "THE TAPE, which is empty then, is a RULE,");
        ValuesGo x = new ValuesGo();
        check.due("a NUMBER that is too long", Check.rule(x, "a<12345"), -102);
        check.due("of the digits behind it none are read", Check.rule(x, "a<1"), 0);
        check.due("a WORD that is none such", Check.rule(x, "a<bcdef"), -102);
        check.due("of the letters behind it none are read", Check.rule(x, "a<b"), 1);
        check.due("the VARIABLES of the last", x.told(1, 1), 3);
        check.due("a WORD cut by the end", Check.rule(x, "distinc"), -100);
        check.due("and of one that was whole", Check.rule(x, "distinct a b"), 2);
        check.due("its end is not read again", Check.rule(x, "distinct a"), -110);
    }

    private static void textsOfAFullTape() {
        check.says(0, "A TEXT is read from THE TAPE (90 bytes at most).");
        String ones = "1+".repeat(43);
        due("a<" + ones + "12", 0);
        due("a<" + ones + " b", 0);
        due("a<" + ones + "bb", -188);
        due("a<" + ones + "1 ", 0);
        due("a<" + ones + "1%", -189);
        due("a<" + ones + "1+", -190);
        due("1+" + ones + "a<", -190);
        due(" ".repeat(90), -190);
        due(" ".repeat(89) + "a", -190);
        due(" ".repeat(87) + "a<b", 0);
        due("a<b" + "\n".repeat(87), 0);
        due("(".repeat(90), -105);
        due("-".repeat(90), -105);
        due("a".repeat(90), -100);
    }

    private static void faultOfTheFirst() {
        check.says(0, "FAULT: the place of the first byte of the first TOKEN, from left to right, that can't stand there");
        due("a+%<bb", -102);
        due("a+bb<%", -102);
        due("a<12345+bb", -102);
        due("a+b+c+d+12345", -106);
        due("((((((a+b+c+d", -105);
        due("a b+c+d+e", -102);
        due("distinct a a zz", -111);
        due("%", -100);
        due("  %", -102);
        due("a+b+c%d", -105);
    }

    private static void faultOfTheEnd() {
        check.says(0, "(the text's size, if it ends too early)");
        String[] texts = {"", " ", "a", "a ", "a<", "a< ", "a<(b", "a+", "a*", "-", "(", "a:", "a:b", "a:b<", "a<-", "distinct",
            "distinct ", "distinct a", "distinct a ", "a<b+", "a<b* ", "a=(b+1 "};
        for (String text : texts) {
            due(text, -100 - text.length());
        }
    }

    private static void faultOfAFourthVariable() {
        check.says(0, "a NAME of a fourth VARIABLE,");
        due("a+b+c<9", 0);
        due("a+b+c<d", -106);
        due("a+b<c+d", -106);
        due("a<b+c*d", -106);
        due("a+b+a+b+c+c<a+b+c", 0);
        due("a:b+c<9", 0);
        due("a:b+c<a", 0);
        due("a:b+c<d", -106);
        due("a:b+c+d<9", -106);
        due("h:a+b<c", -106);
        due("distinct a b c", 0);
        due("distinct a b c d", -115);
    }

    private static void faultOfDistinct() {
        check.says(0, "of DISTINCT one that stands there already,");
        due("distinct a a", -111);
        due("distinct a b a", -113);
        due("distinct a b b", -113);
        due("distinct a b c a", -115);
        due("distinct a", -110);
        due("distinct", -108);
        due("distinct a b", 0);
    }

    private static void faultOfSixOpen() {
        check.says(0, "a ( , a - ahead of a ONE while 5 of these are open");
        String[] six = {"((((((", "------", "(((((-", "-----(", "(-(-(-", "-(-(-(", "((-(((", "--(---"};
        for (String open : six) {
            due(open + "a", -105);
            due("a<" + open + "b", -107);
            due("a:1+" + open + "b", -109);
            due("a-" + open + "b", -107);
        }
    }

    private static void noFaultOfFiveOpen() {
        check.says(0, "while 5 of these are open (a ( till its ) , - till its ONE ends).");
        String[] five = {"(((((a)))))", "-----a", "-(-(-a))", "(-(-(a)))", "((((-a))))", "----(a)"};
        for (String one : five) {
            due(one + "<1", 0);
            due("1<" + one, 0);
            due(one + "*" + one + "!" + one, 0);
            due("h:" + one + "-" + one + "=1", 0);
        }
    }

    private static void aBracketIsOpenTillItsEnd() {
        check.says(0, "(a ( till its ) ,");
        due("((((a))))+(((((b)))))<1", 0);
        due("((((a)+((b)))))<1", 0);
        due("((((a)+((b", -110);
        due("((((a)+(((b", -109);
        due("((((a)))+((b)))<1", 0);
        due("(((((a))))))<1", -111);
        due("((a)<1", -104);
    }

    private static void aMinusIsOpenTillItsOneEnds() {
        check.says(0, "- till its ONE ends).");
        due("-a-(((((b)))))<1", 0);
        due("-a+-----b<1", 0);
        due("-a*-----b<1", 0);
        due("-(((((a", -105);
        due("-((((a))))<1", 0);
        due("-(a)*(((((b)))))<1", 0);
        due("(-a+----b)<1", 0);
        due("(-a+-----b)<1", -108);
        due("-(a+----b)<1", -107);
        due("a-----b<1", 0);
        due("a------b<1", 0);
        due("a-------b<1", -107);
    }

    private static void theNameIsOneLetter() {
        check.says(0, "NAME : TEST (REIFIED)");
        due("a:b<1", 0);
        due("1:b<1", -101);
        due("(a):b<1", -103);
        due("-a:b<1", -102);
        due("a+b:c<1", -103);
        due("a::b<1", -102);
        due("a:b:c<1", -103);
        due("a:b<c:d", -105);
        due("aa:b<1", -100);
        due(":b<1", -100);
        due("a:", -102);
    }

    // ---- what holds

    private static void sumsWrap() {
        check.says(0, "A SUM is an int (wrapping).");
        String most = "8192*8192*32-1";
        String least = "8192*8192*32";
        holds(most + ">0", 0, 0, 0, 1);
        holds(least + "<0", 0, 0, 0, 1);
        holds(most + "+a>0", 0, 0, 0, 1);
        holds(most + "+a<0", 1, 0, 0, 1);
        holds(most + "+a=" + least, 1, 0, 0, 1);
        holds(least + "-a=" + most, 1, 0, 0, 1);
        holds(least + "-a<0", 0, 0, 0, 1);
        holds("-(" + least + ")=" + least, 0, 0, 0, 1);
        holds("(" + least + ")*a=" + least, 3, 0, 0, 1);
        holds("(" + least + ")*a=0", 2, 0, 0, 1);
        holds("8192*8192*64*a=0", 9, 0, 0, 1);
        // 9999 times 9999 is 99980001; times 21 it is 2099580021, times 22 it is 2199560022, less 2 to the 32nd.
        holds("9999*9999*(20+a)>0", 1, 0, 0, 1);
        holds("9999*9999*(20+a)<0", 2, 0, 0, 1);
        // 22 times it is 2199560022 and so -2095407274 as an int; 43 times it is 4299140043 and so 4172747.
        holds("9999*9999*43=417*9999+3164", 0, 0, 0, 1);
    }

    private static void sumsAreComparedAsInts() {
        check.says(0, "SUM, one of < = > ! , SUM.");
        holds("8192*8192*32<8192*8192*32-1", 0, 0, 0, 1);
        holds("8192*8192*32>8192*8192*32-1", 0, 0, 0, 0);
        holds("8192*8192*32-1>8192*8192*32", 0, 0, 0, 1);
        holds("-8192*8192*32+1<8192*8192*32-1", 0, 0, 0, 1);
        holds("8192*8192*32!8192*8192*32-1", 0, 0, 0, 1);
        holds("8192*8192*32=8192*8192*32-1", 0, 0, 0, 0);
    }

    private static void comparisonsAtEquals() {
        check.says(0, "PLAIN: its TEST does (! : both SUMS are unlike);");
        String signs = "<=>!";
        int[][] due = {{1, 0, 0}, {0, 1, 0}, {0, 0, 1}, {1, 0, 1}};
        for (int i = 0; i < 4; i++) {
            for (int y = 4; y <= 6; y++) {
                // 5 against 6, 5 against 5, 5 against 4
                holds("a" + signs.charAt(i) + "b", 5, y, 0, due[i][6 - y]);
            }
        }
    }

    private static void reifiedIsOneOrNought() {
        check.says(0, "REIFIED: NAME's is 1 and TEST does, or it is 0 and TEST doesn't;");
        for (int value = 0; value < 10; value++) {
            holds("h:a<b", 1, 2, value, value == 1 ? 1 : 0);
            holds("h:a<b", 2, 2, value, value == 0 ? 1 : 0);
            holds("a:1<2", value, 0, 0, value == 1 ? 1 : 0);
            // a's own test: a is 0 and a<1 does, a is 1 and it doesn't.
            holds("a:a<1", value, 0, 0, 0);
            holds("a:a>0", value, 0, 0, value < 2 ? 1 : 0);
        }
    }

    private static void distinctOfTwoAndThree() {
        check.says(0, "DISTINCT: no two are the same;");
        holds("distinct a b", 0, 9, 9, 1);
        holds("distinct a b", 9, 9, 0, 0);
        holds("distinct a b", 0, 0, 0, 0);
        holds("distinct c b a", 0, 9, 9, 0);
        holds("distinct c b a", 9, 0, 9, 0);
        holds("distinct c b a", 9, 9, 0, 0);
        holds("distinct c b a", 0, 9, 1, 1);
        holds("distinct c b a", 9, 9, 9, 0);
    }

    private static void priorityByHowMany() {
        check.says(0, "PRIORITY: PLAIN: how many VARIABLES it has; REIFIED: 1 more than a PLAIN one's; DISTINCT: 2 more than a "
            + "PLAIN one's; NOGOOD: 9.");
        String[] texts = {"1<2", "a<2", "a<a", "a<b", "a+b<c", "a:1<2", "a:a<2", "a:b<2", "a:b<c", "distinct a b",
            "distinct a b c"};
        int[] due = {0, 1, 1, 2, 3, 2, 2, 3, 4, 4, 5};
        ValuesGo x = check.with(texts);
        for (int i = 0; i < texts.length; i++) {
            check.due("the PRIORITY of '" + texts[i] + "'", x.told(i, 2), due[i]);
        }
    }
}
