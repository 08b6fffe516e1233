/** What the tests share: a count of wrong answers, and short ways to feed texts. */
final class Check {
    private int wrong;
    private int right;

    void due(String call, long got, long want) {
        if (got == want) {
            right++;
        } else {
            wrong++;
            System.out.println(call + " answered " + got + ", due is " + want);
        }
    }

    /** A new object with rules. */
    ValuesGo with(String... texts) {
        ValuesGo x = new ValuesGo();
        for (int i = 0; i < texts.length; i++) {
            due("rule() of '" + texts[i] + "'", rule(x, texts[i]), i);
        }
        return x;
    }

    /** A new object with rules, of which the first variables are told sets, the others are told to be 0. */
    ValuesGo told(int[] sets, String... texts) {
        ValuesGo x = with(texts);
        for (int v = 0; v < 8; v++) {
            x.tell(v, v < sets.length ? sets[v] : 1);
        }
        return x;
    }

    /**
     * While d is 1, e and f are to be like and unlike, which only a try of e shows. d is 1 for 10 * a + b below a
     * number: each of these costs a try of b and one of e, but b's 9 comes without one; each a costs one.
     */
    ValuesGo hard(int below) {
        int[] sets = {1023, 1023, 1, 1023, 3, 3};
        return told(sets, "d:a*10+b<" + below, "e!f", "(e-f)*(e-f)*d=0");
    }

    /** Feeds a text and makes it a rule: what rule() answered. */
    static int rule(ValuesGo x, String text) {
        feed(x, text);
        return x.rule();
    }

    static void feed(ValuesGo x, String text) {
        for (int i = 0; i < text.length(); i++) {
            x.feed(text.charAt(i));
        }
    }

    void close() {
        System.out.println(right + " answers right, " + wrong + " wrong");
        if (wrong > 0 || right == 0) {
            System.exit(1);
        }
    }
}
