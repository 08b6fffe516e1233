/** What the tests share: a count of wrong answers, and short ways to feed texts. */
final class Check {
    private int wrong;
    private int right;

    void due(String call, long got, long want) {
        if (got == want) {
            right++;
        } else {
            wrong++;
            System.out.println(call + " answered " + got + ", due is " + want);
        }
    }

    /** Feeds a text and makes it a rule: what rule() answered. */
    static int rule(ValuesGo x, String text) {
        feed(x, text);
        return x.rule();
    }

    static void feed(ValuesGo x, String text) {
        for (int i = 0; i < text.length(); i++) {
            x.feed(text.charAt(i));
        }
    }

    void close() {
        System.out.println(right + " answers right, " + wrong + " wrong");
        if (wrong > 0 || right == 0) {
            System.exit(1);
        }
    }
}
