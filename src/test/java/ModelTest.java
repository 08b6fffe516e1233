/** Runs of calls drawn by a fixed formula: the class and the Model answer alike. */
public final class ModelTest {
    private static final String[] FORMS = {
        "V<V", "V>V", "V=V", "V!V", "V+V=V", "V+V=9", "V-V=D", "V*V=V", "V*V<NN", "V+V+V=NN", "2*V=V+D", "V!D", "V<D", "V>D",
        "V:V<V", "V:V=D", "V : V + V > D", "V:V!V", "V:V<D", "V:D<D", "distinct V V", "distinct V V V", "distinct\nV V V ",
        "(V-V)*(V-V)>D", "-V+9=V", "-(V-V)<V", "V*V*V*V*9999*9999>0", " V - - V ! D", "D<D", "V=D+V*D", "((((V))))=V",
        "V+V!V+D", "V-D=D*V", "V*D=V*D", "(V+V)*D=NN+V", "V+V=V+V", "V:V:V<D", "V<V<V", "distinct V", "V+V+V<V+D", "VV<D",
        "00D<V", "1000D<V", "((((((V))))))<D", "-(-(-V))=D", "-(-(-(V)))=D", "-----V<D", "------V<D", "V=D)", "(V=D"
    };

    private static final int[] WILD = {
        Integer.MIN_VALUE, Integer.MIN_VALUE + 1, -1073741824, -1000, -3, -2, -1, 0, 1, 2, 3, 4, 7, 8, 9, 10, 12, 15, 16, 17,
        39, 40, 41, 89, 90, 99, 100, 255, 256, 999, 1000, 1023, 1024, 1079, 1080, 65536, 1073741823, Integer.MAX_VALUE
    };

    private static final Check check = new Check();
    private static long state;
    private static ValuesGo mine;
    private static Model due;
    private static StringBuilder told;
    private static int reach;
    private static int calls;
    private static boolean wrong;

    public static void main(String[] args) {
        int runs = args.length > 0 ? Integer.parseInt(args[0]) : 600;
        int first = args.length > 1 ? Integer.parseInt(args[1]) : 0;
        for (int run = first; run < first + runs; run++) {
            if (!sameRun(run)) {
                break;
            }
        }
        check.close();
    }

    private static boolean sameRun(int run) {
        state = run * 7919L + 17;
        mine = new ValuesGo();
        due = new Model();
        told = new StringBuilder();
        wrong = false;
        calls = 0;
        // Few variables make rules meet, many make searches go wide.
        reach = 2 + draw(7);
        int style = draw(4);
        if (style == 1) {
            colours();
            everySearch();
        } else if (style == 2) {
            riddle();
            everySearch();
        }
        while (calls < 512 && !wrong) {
            if (due.now.failed && draw(4) == 0) {
                wayOut();
            }
            // A text that is refused stays on the tape, so few are fed then.
            int texts = due.now.failed || due.now.rules.size() == 16 ? 40 : style == 0 || style == 3 ? 8 : 25;
            if (draw(texts) == 0) {
                text(anyText());
            } else if (draw(20) == 0) {
                wild(WILD[draw(WILD.length)], WILD[draw(WILD.length)], WILD[draw(WILD.length)]);
            } else {
                one(draw(100));
            }
        }
        if (wrong) {
            System.out.println("run " + run + ":" + told);
        }
        return !wrong;
    }

    private static void wayOut() {
        if (draw(2) == 0 && !due.now.levels.isEmpty()) {
            same("undo()", mine.undo(), due.undo());
        } else if (due.image != null && !due.image.failed) {
            same("back()", mine.back(), due.back());
        } else if (draw(10) == 0) {
            calls = 512;
        }
    }

    private static void everySearch() {
        for (int i = 0; i < 96; i++) {
            int choose = i / 24;
            int pick = i / 8 % 3;
            int learn = i / 4 % 2;
            int what = i % 4;
            same("search(" + choose + ", " + pick + ", " + learn + ", " + what + ")",
                mine.search(choose, pick, learn, what), due.search(choose, pick, learn, what));
        }
        same("solutions()", mine.solutions(), due.solutions());
        same("film(3, 1, 1)", mine.film(3, 1, 1), due.film(3, 1, 1));
        same("tells(3, 0)", mine.tells(3, 0), due.tells(3, 0));
        for (int v = 0; v < 8; v++) {
            same("reach(" + v + ", 0)", mine.reach(v, 0), due.reach(v, 0));
            same("reach(" + v + ", 1)", mine.reach(v, 1), due.reach(v, 1));
        }
        same("image()", mine.image(), due.image());
    }

    /** Small domains and pairs that are to be unlike: no rule sees alone that it can't be. */
    private static void colours() {
        reach = 4 + draw(5);
        int few = 2 + draw(3);
        for (int v = 0; v < reach; v++) {
            int set = draw(3) == 0 ? (1 << few) - 1 & ~(1 << draw(few)) : (1 << few) - 1;
            same("tell(" + v + ", " + set + ")", mine.tell(v, set), due.tell(v, set));
        }
        for (int i = 6 + draw(9); i > 0; i--) {
            String form = draw(6) == 0 ? "distinct V V V" : draw(5) == 0 ? "V+V!D" : draw(6) == 0 ? "V:V!V" : "V!V";
            text(unlike(form));
        }
        same("run()", mine.run(), due.run());
    }

    /** Sums that hold for values drawn ahead, now and then nearly so. */
    private static void riddle() {
        reach = 4 + draw(5);
        int[] values = new int[8];
        for (int v = 0; v < 8; v++) {
            values[v] = draw(10);
        }
        for (int i = 3 + draw(8); i > 0; i--) {
            int x = draw(reach);
            int y = draw(reach);
            int z = draw(reach);
            int off = draw(40) == 0 ? 1 : 0;
            char a = (char) ('a' + x);
            char b = (char) ('a' + y);
            char c = (char) ('a' + z);
            switch (draw(5)) {
                case 0: text("" + a + "+" + b + "+" + c + "=" + (values[x] + values[y] + values[z] + off)); break;
                case 1: text("" + a + "*" + b + "+" + c + "=" + (values[x] * values[y] + values[z] + off)); break;
                case 2: text("" + a + "+" + b + "*2=" + (values[x] + 2 * values[y] + off)); break;
                case 3: text("" + a + "*" + a + "+" + b + "*" + c + ">" + (values[x] * values[x] + values[y] * values[z] - 1)); break;
                default: text("(" + a + "-" + b + ")*(" + a + "-" + b + ")="
                    + ((values[x] - values[y]) * (values[x] - values[y]) + off)); break;
            }
        }
        if (draw(3) > 0) {
            same("run()", mine.run(), due.run());
        }
    }

    private static int draw(int below) {
        state = state * 6364136223846793005L + 1442695040888963407L;
        return (int) ((state >>> 33) % below);
    }

    private static int variable() {
        return draw(40) == 0 ? draw(12) - 2 : draw(Math.min(reach, 8));
    }

    private static int set() {
        switch (draw(8)) {
            case 0: return draw(3) == 0 ? 1 << draw(10) : 1023 & ~(1 << draw(10));
            case 1: return draw(30) == 0 ? 1024 : draw(1024) | draw(1024) | draw(1024);
            case 2: return draw(1024);
            case 3: return draw(40) == 0 ? -1 : 1023;
            default: return 1023 & ~(1 << draw(10));
        }
    }

    private static void same(String call, long got, long want) {
        calls++;
        told.append('\n').append(call).append(" = ").append(want);
        // What an object answers behind its 512th call is free.
        if (wrong || calls > 512) {
            return;
        }
        check.due(call, got, want);
        wrong = got != want;
    }

    private static String anyText() {
        StringBuilder text = new StringBuilder();
        if (draw(20) == 0) {
            for (int i = draw(12); i > 0; i--) {
                text.append("abch019+-*()<=>!: \ni;A\u00e9".charAt(draw(23)));
            }
            return text.toString();
        }
        text.append(filled(FORMS[draw(draw(3) == 0 ? FORMS.length : 24)]));
        if (draw(10) == 0) {
            text.insert(draw(text.length() + 1), "abz09+-*()<=>!: \n".charAt(draw(17)));
        }
        return text.toString();
    }

    private static String filled(String form) {
        StringBuilder text = new StringBuilder();
        for (char c : form.toCharArray()) {
            text.append(c == 'V' ? (char) ('a' + draw(reach)) : c == 'D' || c == 'N' ? (char) ('0' + draw(10)) : c);
        }
        return text.toString();
    }

    /** The form with variables that are all unlike, as far as there are so many. */
    private static String unlike(String form) {
        StringBuilder text = new StringBuilder();
        int v = draw(reach);
        for (char c : form.toCharArray()) {
            text.append(c == 'V' ? (char) ('a' + v) : c == 'D' ? (char) ('0' + draw(10)) : c);
            v = c == 'V' ? (v + 1 + draw(reach / 2)) % reach : v;
        }
        return text.toString();
    }

    private static void text(String text) {
        for (int i = 0; i < text.length(); i++) {
            int c = text.charAt(i);
            same("feed(" + c + ")", mine.feed(c), due.feed(c));
        }
        same("rule()", mine.rule(), due.rule());
    }

    private static void wild(int a, int b, int c) {
        int d = draw(3) == 0 ? c : 1;
        String of = "(" + a + ", " + b + ", " + c + ", " + d + ") as far as asked for";
        switch (draw(18)) {
            case 0: same("feed" + of, mine.feed(a), due.feed(a)); break;
            case 1: same("told" + of, mine.told(a, b), due.told(a, b)); break;
            case 2: same("holds" + of, mine.holds(a, b, c, d), due.holds(a, b, c, d)); break;
            case 3: same("taken" + of, mine.taken(a, b), due.taken(a, b)); break;
            case 4: same("tell" + of, mine.tell(a, b), due.tell(a, b)); break;
            case 5: same("domain" + of, mine.domain(a), due.domain(a)); break;
            case 6: same("trail" + of, mine.trail(a, b), due.trail(a, b)); break;
            case 7: same("decision" + of, mine.decision(a, b), due.decision(a, b)); break;
            case 8: same("why" + of, mine.why(a, b), due.why(a, b)); break;
            case 9: same("mixed" + of, mine.mixed(a, b), due.mixed(a, b)); break;
            case 10: same("search" + of, mine.search(a, b, c, d), due.search(a, b, c, d)); break;
            case 11: same("reach" + of, mine.reach(a, b), due.reach(a, b)); break;
            case 12: same("tells" + of, mine.tells(a, b), due.tells(a, b)); break;
            case 13: same("film" + of, mine.film(a, b, c), due.film(a, b, c)); break;
            case 14: same("sheet" + of, mine.sheet(a, b, c), due.sheet(a, b, c)); break;
            case 15: same("put" + of, mine.put(a, b, c), due.put(a, b, c)); break;
            case 16: same("copy 0" + of, mine.copy(0, a, d, b, c), due.copy(0, a, d, b, c)); break;
            default: same("load" + of, mine.load(a, d, b, c), due.load(a, d, b, c)); break;
        }
    }

    private static void one(int kind) {
        int a = draw(draw(30) == 0 ? 18 : due.now.rules.size() + 1) - (draw(20) == 0 ? 1 : 0);
        int v = variable();
        int s = set();
        int sheet = draw(30) == 0 ? draw(8) - 2 : draw(4);
        if (kind < 8) {
            same("tell(" + v + ", " + s + ")", mine.tell(v, s), due.tell(v, s));
        } else if (kind < 16) {
            same("run()", mine.run(), due.run());
        } else if (kind < 22) {
            same("step()", mine.step(), due.step());
        } else if (kind < 27) {
            same("level()", mine.level(), due.level());
        } else if (kind < 31) {
            same("undo()", mine.undo(), due.undo());
        } else if (kind < 34) {
            int what = draw(8);
            same("told(" + a + ", " + what + ")", mine.told(a, what), due.told(a, what));
        } else if (kind < 37) {
            int x = draw(11);
            int y = draw(11);
            int z = draw(11);
            same("holds(" + a + ", " + x + ", " + y + ", " + z + ")", mine.holds(a, x, y, z), due.holds(a, x, y, z));
        } else if (kind < 39) {
            int k = draw(5) - 1;
            same("taken(" + a + ", " + k + ")", mine.taken(a, k), due.taken(a, k));
        } else if (kind < 42) {
            same("domain(" + v + ")", mine.domain(v), due.domain(v));
        } else if (kind < 46) {
            int what = draw(2) == 0 ? draw(4) - 1 : 990 + draw(100);
            int i = draw(Math.max(1, due.now.trail.size() + 2)) - 1;
            same("trail(" + i + ", " + what + ")", mine.trail(i, what), due.trail(i, what));
        } else if (kind < 48) {
            int i = draw(14) - 1;
            int what = draw(4) - 1;
            same("decision(" + i + ", " + what + ")", mine.decision(i, what), due.decision(i, what));
        } else if (kind < 53) {
            int value = draw(12) - 1;
            int of = draw(3) == 0 ? -1 : v;
            same("why(" + of + ", " + value + ")", mine.why(of, value), due.why(of, value));
        } else if (kind < 56) {
            int seed = draw(1 << 30) * 4 + draw(4);
            same("mixed(" + seed + ", " + v + ")", mine.mixed(seed, v), due.mixed(seed, v));
        } else {
            searching(kind, v, sheet);
        }
    }

    private static void searching(int kind, int v, int sheet) {
        int choose = draw(30) == 0 ? draw(8) - 2 : draw(4);
        int pick = draw(30) == 0 ? draw(6) - 2 : draw(3);
        if (kind < 68) {
            int learn = draw(30) == 0 ? draw(5) - 2 : draw(2);
            int what = draw(30) == 0 ? draw(8) - 2 : draw(4);
            same("search(" + choose + ", " + pick + ", " + learn + ", " + what + ")",
                mine.search(choose, pick, learn, what), due.search(choose, pick, learn, what));
        } else if (kind < 69) {
            same("solutions()", mine.solutions(), due.solutions());
        } else if (kind < 71) {
            int what = draw(30) == 0 ? draw(5) - 2 : draw(2);
            same("reach(" + v + ", " + what + ")", mine.reach(v, what), due.reach(v, what));
        } else if (kind < 73) {
            int what = draw(30) == 0 ? draw(6) - 2 : draw(3);
            same("tells(" + sheet + ", " + what + ")", mine.tells(sheet, what), due.tells(sheet, what));
        } else if (kind < 75) {
            same("film(" + sheet + ", " + choose + ", " + pick + ")",
                mine.film(sheet, choose, pick), due.film(sheet, choose, pick));
        } else if (kind < 77) {
            same("image()", mine.image(), due.image());
        } else if (kind < 79) {
            same("back()", mine.back(), due.back());
        } else if (kind < 84) {
            int what = draw(11) - 1;
            same("count(" + what + ")", mine.count(what), due.count(what));
        } else {
            hosting(kind, sheet);
        }
    }

    private static void hosting(int kind, int sheet) {
        int sort = draw(20) == 0 ? draw(6) - 2 : draw(4) - 1;
        int i = draw(12) - 1;
        int j = draw(12) - 1;
        int n = draw(10) - 1;
        if (kind < 87) {
            int size = draw(3) == 0 ? draw(46) - 3 : draw(4) == 0 ? 20 : 8;
            same("sheet(" + sheet + ", " + sort + ", " + size + ")",
                mine.sheet(sheet, sort, size), due.sheet(sheet, sort, size));
        } else if (kind < 92) {
            int put = draw(4) == 0 ? draw(1 << 30) * 4 : draw(2) == 0 ? draw(10) : draw(300);
            same("put(" + sheet + ", " + i + ", " + put + ")", mine.put(sheet, i, put), due.put(sheet, i, put));
        } else if (kind < 94) {
            same("item(" + sheet + ", " + i + ")", mine.item(sheet, i), due.item(sheet, i));
        } else if (kind < 97) {
            int other = draw(30) == 0 ? draw(8) - 2 : draw(4);
            same("copy(" + sheet + ", " + i + ", " + other + ", " + j + ", " + n + ")",
                mine.copy(sheet, i, other, j, n), due.copy(sheet, i, other, j, n));
        } else {
            same("load(" + sheet + ", " + sort + ", " + i + ", " + n + ")",
                mine.load(sheet, sort, i, n), due.load(sheet, sort, i, n));
        }
    }
}
