import java.util.ArrayList;
import java.util.Arrays;
import java.util.List;
import java.util.TreeSet;

/**
 * The document written a second time, word for word and slowly: rules are asked way by way, levels and tries are
 * copies of everything. It shares no code and no way of keeping things with the class.
 */
final class Model {
    static final long NO = -4611686018427387904L;

    /** A rule as tokens of its two sums, or its names, or its pairs. */
    static final class Rule {
        int kind;
        TreeSet<Integer> variables = new TreeSet<>();
        int name;
        char comparison;
        List<String> left = new ArrayList<>();
        List<String> right = new ArrayList<>();
        int[] pairs = new int[8];
        byte[] known = new byte[1000];

        int priority() {
            return kind == 3 ? 9 : variables.size() + kind;
        }

        boolean holds(int[] values) {
            if (kind == 3) {
                for (int v : variables) {
                    if (values[v] != pairs[v]) {
                        return true;
                    }
                }
                return false;
            }
            int key = 0;
            for (int v : variables) {
                key = key * 10 + values[v];
            }
            if (known[key] == 0) {
                known[key] = (byte) (asked(values) ? 2 : 1);
            }
            return known[key] == 2;
        }

        private boolean asked(int[] values) {
            if (kind == 2) {
                return variables.stream().map(v -> values[v]).distinct().count() == variables.size();
            }
            int l = sum(left, 0, left.size(), values);
            int r = sum(right, 0, right.size(), values);
            boolean does = comparison == '<' && l < r || comparison == '>' && l > r
                || comparison == '=' && l == r || comparison == '!' && l != r;
            return kind == 0 ? does : values[name] == 1 && does || values[name] == 0 && !does;
        }

        /** Splits at the last sign that stands outside brackets between two ones; + and - ahead of *. */
        private static int sum(List<String> t, int from, int to, int[] values) {
            for (String signs : new String[] {"+-", "*"}) {
                int open = 0;
                for (int i = to - 1; i > from; i--) {
                    String s = t.get(i);
                    open += s.equals(")") ? 1 : s.equals("(") ? -1 : 0;
                    String ahead = t.get(i - 1);
                    boolean between = ahead.equals(")") || Character.isLetterOrDigit(ahead.charAt(0));
                    if (open == 0 && signs.contains(s) && between) {
                        long l = sum(t, from, i, values);
                        long r = sum(t, i + 1, to, values);
                        return (int) (s.equals("+") ? l + r : s.equals("-") ? l - r : l * r);
                    }
                }
            }
            String first = t.get(from);
            if (first.equals("-")) {
                return (int) -(long) sum(t, from + 1, to, values);
            }
            if (first.equals("(")) {
                return sum(t, from + 1, to - 1, values);
            }
            return Character.isLetter(first.charAt(0)) ? values[first.charAt(0) - 'a'] : Integer.parseInt(first);
        }
    }

    record Went(int value, int reason) { }

    record Decision(int variable, int set) { }

    /** All that an image keeps. */
    static final class State {
        List<Rule> rules = new ArrayList<>();
        List<TreeSet<Integer>> domains = new ArrayList<>();
        List<Decision> decisions = new ArrayList<>();
        List<Went> trail = new ArrayList<>();
        TreeSet<Integer> queue = new TreeSet<>();
        List<State> levels = new ArrayList<>();
        boolean failed;
        int runs;

        State() {
            for (int v = 0; v < 8; v++) {
                domains.add(fullDomain());
            }
        }

        State copy() {
            State s = new State();
            s.rules.addAll(rules);
            s.domains.clear();
            for (TreeSet<Integer> d : domains) {
                s.domains.add(new TreeSet<>(d));
            }
            s.decisions.addAll(decisions);
            s.trail.addAll(trail);
            s.queue.addAll(queue);
            s.levels.addAll(levels);
            s.failed = failed;
            s.runs = runs;
            return s;
        }

        /** Goes back to what an earlier copy was, for a try that is turned back: the rules stay. */
        void again(State was) {
            State c = was.copy();
            domains = c.domains;
            trail = c.trail;
            queue = c.queue;
            failed = c.failed;
        }

        boolean go(int variable, int value, int reason) {
            domains.get(variable).remove(value);
            trail.add(new Went(10 * variable + value, reason));
            if (domains.get(variable).isEmpty()) {
                failed = true;
                queue.clear();
            }
            return failed;
        }

        int decide(int variable, int set, int reason) {
            int many = 0;
            for (int value = 0; value < 10; value++) {
                if (domains.get(variable).contains(value) && (set >> value & 1) == 0) {
                    go(variable, value, reason);
                    many++;
                }
            }
            if (many > 0 && !failed) {
                for (int r = 0; r < rules.size(); r++) {
                    if (rules.get(r).variables.contains(variable)) {
                        queue.add(r);
                    }
                }
            }
            return many;
        }

        int next() {
            int best = -1;
            for (int r : queue) {
                if (best < 0 || rules.get(r).priority() < rules.get(best).priority()) {
                    best = r;
                }
            }
            return best;
        }

        void prune(int number) {
            queue.remove(number);
            runs++;
            Rule rule = rules.get(number);
            boolean[][] had = new boolean[8][10];
            List<Integer> its = new ArrayList<>(rule.variables);
            ways(rule, its, 0, new int[8], had);
            TreeSet<Integer> touched = new TreeSet<>();
            for (int v : its) {
                for (int value : new ArrayList<>(domains.get(v))) {
                    if (!had[v][value]) {
                        touched.add(v);
                        if (go(v, value, number)) {
                            return;
                        }
                    }
                }
            }
            for (int r = 0; r < rules.size(); r++) {
                for (int v : touched) {
                    if (r != number && rules.get(r).variables.contains(v)) {
                        queue.add(r);
                    }
                }
            }
        }

        int ways(Rule rule, List<Integer> its, int at, int[] values, boolean[][] had) {
            if (at == its.size()) {
                if (!rule.holds(values)) {
                    return 0;
                }
                for (int v : its) {
                    had[v][values[v]] = true;
                }
                return 1;
            }
            int many = 0;
            for (int value : domains.get(its.get(at))) {
                values[its.get(at)] = value;
                many += ways(rule, its, at + 1, values, had);
            }
            return many;
        }

        int runAll() {
            int many = 0;
            while (!queue.isEmpty()) {
                prune(next());
                many++;
            }
            return many;
        }

        boolean settled() {
            return domains.stream().allMatch(d -> d.size() == 1);
        }
    }

    static TreeSet<Integer> fullDomain() {
        return new TreeSet<>(Arrays.asList(0, 1, 2, 3, 4, 5, 6, 7, 8, 9));
    }

    static int bits(TreeSet<Integer> set) {
        int b = 0;
        for (int i : set) {
            b |= 1 << i;
        }
        return b;
    }

    State now = new State();
    State image;
    StringBuilder tape = new StringBuilder();
    Object[] sheets = new Object[4];

    // ---- reading

    private int place;
    private int tokenAt;

    /** The next token of the tape as a text: "" at the end, "?" for what is no token. */
    private String nextToken() {
        while (place < tape.length() && (tape.charAt(place) == ' ' || tape.charAt(place) == '\n')) {
            place++;
        }
        tokenAt = place;
        if (place >= tape.length()) {
            return "";
        }
        String rest = tape.substring(place);
        for (String pattern : new String[] {"[a-z]+", "[0-9]+", "[()*:+<=>!-]"}) {
            java.util.regex.Matcher m = java.util.regex.Pattern.compile(pattern).matcher(rest);
            if (m.lookingAt()) {
                place += m.end();
                String s = m.group();
                boolean known = s.matches("[a-h]|distinct|[0-9]{1,4}|[^a-z0-9]");
                return known ? s : "?";
            }
        }
        place++;
        return "?";
    }

    /** A machine that looks at one token after the other; null is answered at a fault, whose place is tokenAt. */
    private Rule parse() {
        place = 0;
        Rule rule = new Rule();
        String t = nextToken();
        if (t.equals("distinct")) {
            rule.kind = 2;
            for (t = nextToken(); t.matches("[a-h]"); t = nextToken()) {
                if (rule.variables.size() == 3 || !rule.variables.add(t.charAt(0) - 'a')) {
                    return null;
                }
            }
            return t.isEmpty() && rule.variables.size() > 1 ? rule : null;
        }
        List<String> open = new ArrayList<>();
        List<String> sum = rule.left;
        boolean wantsOne = true;
        int many = 0;
        for (;; t = nextToken(), many++) {
            if (wantsOne) {
                if (t.matches("[a-h]")) {
                    rule.variables.add(t.charAt(0) - 'a');
                    if (rule.variables.size() > 3) {
                        return null;
                    }
                } else if (t.matches("[-(]")) {
                    if (open.size() == 5) {
                        return null;
                    }
                    open.add(t);
                } else if (!t.matches("[0-9]+")) {
                    return null;
                }
                sum.add(t);
                if (!t.matches("[-(]")) {
                    wantsOne = false;
                    endOne(open);
                }
            } else if (t.equals(":") && many == 1 && rule.left.get(0).matches("[a-h]")) {
                rule.kind = 1;
                rule.name = rule.left.get(0).charAt(0) - 'a';
                rule.left.clear();
                wantsOne = true;
            } else if (t.matches("[+*-]")) {
                sum.add(t);
                wantsOne = true;
            } else if (t.equals(")") && open.size() > 0) {
                open.remove(open.size() - 1);
                sum.add(t);
                endOne(open);
            } else if (t.matches("[<=>!]") && open.isEmpty() && sum == rule.left) {
                rule.comparison = t.charAt(0);
                sum = rule.right;
                wantsOne = true;
            } else {
                return t.isEmpty() && open.isEmpty() && sum == rule.right ? rule : null;
            }
        }
    }

    private static void endOne(List<String> open) {
        while (!open.isEmpty() && open.get(open.size() - 1).equals("-")) {
            open.remove(open.size() - 1);
        }
    }

    // ---- rules

    int feed(int letter) {
        if (letter < 0 || letter > 255) {
            return -2;
        }
        if (tape.length() == 90) {
            return -4;
        }
        tape.append((char) letter);
        return tape.length();
    }

    int rule() {
        if (now.rules.size() == 16) {
            return -4;
        }
        if (now.failed) {
            return -3;
        }
        Rule rule = parse();
        tape.setLength(0);
        if (rule == null) {
            return -100 - tokenAt;
        }
        now.rules.add(rule);
        now.queue.add(now.rules.size() - 1);
        return now.rules.size() - 1;
    }

    int told(int number, int what) {
        if (number < 0 || number >= now.rules.size() || what < 0 || what > 6) {
            return -2;
        }
        Rule rule = now.rules.get(number);
        switch (what) {
            case 0: return rule.kind;
            case 1: return bits(rule.variables);
            case 2: return rule.priority();
            case 3: return now.queue.contains(number) ? 1 : 0;
            case 4: return idle(number);
            case 5: return now.ways(rule, new ArrayList<>(rule.variables), 0, new int[8], new boolean[8][10]);
            default: return (int) now.trail.stream().filter(w -> w.reason() == number).count();
        }
    }

    private int idle(int number) {
        State with = fromStart(-1, List.of(), -1);
        State without = fromStart(-1, List.of(), number);
        return with.failed && without.failed
            || !with.failed && !without.failed && with.domains.equals(without.domains) ? 1 : 0;
    }

    /** Ahead of the runs; the rule left out keeps its number and is asked nothing, as it has no variables. */
    private State start(int some, List<Decision> pairs, int leftOut) {
        State s = new State();
        s.rules.addAll(now.rules);
        if (leftOut >= 0) {
            s.rules.set(leftOut, new Rule());
        }
        for (int i = 0; i < now.decisions.size(); i++) {
            if ((some >> i & 1) == 1 && !s.failed) {
                s.decide(now.decisions.get(i).variable(), now.decisions.get(i).set(), 100 + i);
            }
        }
        for (Decision d : pairs) {
            if (!s.failed) {
                s.decide(d.variable(), d.set(), 100);
            }
        }
        if (!s.failed) {
            for (int r = 0; r < s.rules.size(); r++) {
                s.queue.add(r);
            }
            s.queue.remove(leftOut);
        }
        return s;
    }

    private State fromStart(int some, List<Decision> pairs, int leftOut) {
        State s = start(some, pairs, leftOut);
        s.runAll();
        return s;
    }

    int holds(int number, int x, int y, int z) {
        if (number < 0 || number >= now.rules.size()) {
            return -2;
        }
        Rule rule = now.rules.get(number);
        int[] given = {x, y, z};
        int[] values = new int[8];
        int i = 0;
        for (int v : rule.variables) {
            if (given[i] < 0 || given[i] > 9) {
                return -2;
            }
            values[v] = given[i];
            i++;
        }
        return rule.holds(values) ? 1 : 0;
    }

    int taken(int number, int k) {
        if (k < 0 || k > 2) {
            return -2;
        }
        if (number < 0 || number >= now.rules.size()) {
            return -11;
        }
        Rule rule = now.rules.get(number);
        return rule.kind == k || rule.kind == 1 && k == 0 ? rule.variables.size() : -13;
    }

    // ---- values that go

    int tell(int variable, int set) {
        if (variable < 0 || variable > 7 || set < 0 || set > 1023) {
            return -2;
        }
        if (now.failed) {
            return -3;
        }
        if (now.decisions.size() == 12) {
            return -4;
        }
        now.decisions.add(new Decision(variable, set));
        return now.decide(variable, set, 99 + now.decisions.size());
    }

    int step() {
        int next = now.next();
        if (next >= 0) {
            now.prune(next);
        }
        return next;
    }

    int run() {
        return now.runAll();
    }

    int level() {
        if (now.failed || !now.queue.isEmpty()) {
            return -3;
        }
        if (now.levels.size() == 8) {
            return -4;
        }
        now.levels.add(now.copy());
        return now.levels.size();
    }

    int undo() {
        if (now.levels.isEmpty()) {
            return -3;
        }
        State was = now.levels.get(now.levels.size() - 1).copy();
        int many = now.trail.size() - was.trail.size();
        for (int r = was.rules.size(); r < now.rules.size(); r++) {
            was.rules.add(now.rules.get(r));
            was.queue.add(r);
        }
        was.runs = now.runs;
        now = was;
        return many;
    }

    int domain(int variable) {
        return variable < 0 || variable > 7 ? -2 : bits(now.domains.get(variable));
    }

    int trail(int i, int what) {
        if (what >= 1000 && what <= 1079) {
            for (int k = 0; k < now.trail.size(); k++) {
                if (now.trail.get(k).value() == what - 1000) {
                    return k;
                }
            }
            return -1;
        }
        if (what != 0 && what != 1) {
            return -2;
        }
        if (i < 0 || i >= now.trail.size()) {
            return -12;
        }
        return what == 0 ? now.trail.get(i).value() : now.trail.get(i).reason();
    }

    int decision(int i, int what) {
        if (what != 0 && what != 1) {
            return -2;
        }
        if (i < 0 || i >= now.decisions.size()) {
            return -12;
        }
        return what == 0 ? now.decisions.get(i).variable() : now.decisions.get(i).set();
    }

    int why(int variable, int value) {
        if (variable < -1 || variable > 7 || variable >= 0 && (value < 0 || value > 9)) {
            return -2;
        }
        int left = (1 << now.decisions.size()) - 1;
        if (!gone(left, variable, value)) {
            return -1;
        }
        for (int i = 0; i < now.decisions.size(); i++) {
            if (gone(left & ~(1 << i), variable, value)) {
                left &= ~(1 << i);
            }
        }
        return left;
    }

    private boolean gone(int some, int variable, int value) {
        State s = fromStart(some, List.of(), -1);
        return s.failed || variable >= 0 && !s.domains.get(variable).contains(value);
    }

    int mixed(int seed, int variable) {
        if (variable < 0 || variable > 7) {
            return -2;
        }
        State s = start(-1, List.of(), -1);
        int z = seed;
        while (!s.queue.isEmpty()) {
            z = z * 1103515245 + 12345;
            s.prune(new ArrayList<>(s.queue).get((z >>> 9) % s.queue.size()));
        }
        return s.failed ? -1 : bits(s.domains.get(variable));
    }

    // ---- solutions

    /** A search that goes by calls of itself: each try is a call, which answers whether all is over. */
    private final class Search {
        State s;
        int choose;
        int pick;
        boolean learn;
        int most;
        boolean all;
        int tries;
        int fails;
        int found;
        boolean dear;
        String solution = "";
        int learned;
        List<Decision> open = new ArrayList<>();

        Search(State from, int choose, int pick, boolean learn, int most, boolean all) {
            s = from.copy();
            this.choose = choose;
            this.pick = pick;
            this.learn = learn;
            this.most = most;
            this.all = all;
            go(false);
        }

        private boolean go(boolean behindTry) {
            boolean tried = behindTry;
            for (;;) {
                s.runAll();
                if (s.failed) {
                    fails++;
                    lesson = tried && learn && learned < 8 ? lesson() : null;
                    return false;
                }
                if (s.settled()) {
                    found++;
                    StringBuilder digits = new StringBuilder();
                    s.domains.forEach(d -> digits.append(d.first()));
                    solution = digits.toString();
                    lesson = null;
                    return !all;
                }
                if (tries == most) {
                    dear = true;
                    return true;
                }
                tries++;
                int variable = variable();
                int value = value(new ArrayList<>(s.domains.get(variable)));
                State ahead = s.copy();
                open.add(new Decision(variable, 1 << value));
                s.decide(variable, 1 << value, 100);
                if (go(true)) {
                    return true;
                }
                open.remove(open.size() - 1);
                s.again(ahead);
                s.decide(variable, 1023 & ~(1 << value), 100);
                if (lesson != null) {
                    s.rules.add(lesson);
                    s.queue.add(s.rules.size() - 1);
                    lesson = null;
                }
                tried = false;
            }
        }

        private Rule lesson;

        private Rule lesson() {
            List<Decision> left = new ArrayList<>(open);
            if (!fromStart(-1, left, -1).failed) {
                return null;
            }
            for (Decision d : open) {
                List<Decision> fewer = new ArrayList<>(left);
                fewer.remove(d);
                if (fromStart(-1, fewer, -1).failed) {
                    left = fewer;
                }
            }
            Rule rule = new Rule();
            rule.kind = 3;
            for (Decision d : left) {
                rule.variables.add(d.variable());
                rule.pairs[d.variable()] = Integer.numberOfTrailingZeros(d.set());
            }
            learned++;
            return rule;
        }

        private int variable() {
            int best = -1;
            int most = 0;
            for (int v = 0; v < 8; v++) {
                int size = s.domains.get(v).size();
                int variable = v;
                int rules = (int) now.rules.stream().filter(r -> r.variables.contains(variable)).count();
                int worth = choose == 0 ? 0 : choose == 1 ? 10 - size : choose == 2 ? size : rules;
                if (size > 1 && (best < 0 || worth > most)) {
                    best = v;
                    most = worth;
                }
            }
            return best;
        }

        private int value(List<Integer> domain) {
            return domain.get(pick == 0 ? 0 : pick == 1 ? domain.size() - 1 : domain.size() / 2);
        }
    }

    int search(int choose, int pick, int learn, int what) {
        if (choose < 0 || choose > 3 || pick < 0 || pick > 2 || learn < 0 || learn > 1 || what < 0 || what > 3) {
            return -2;
        }
        Search search = new Search(now, choose, pick, learn == 1, 100, false);
        if (search.dear) {
            return -6;
        }
        switch (what) {
            case 0: return search.found == 0 ? -1 : Integer.parseInt(search.solution);
            case 1: return search.tries;
            case 2: return search.fails;
            default: return search.learned;
        }
    }

    long solutions() {
        Search search = new Search(now, 0, 0, false, 300, true);
        return search.dear ? NO : search.found;
    }

    int reach(int variable, int what) {
        if (variable < 0 || variable > 7 || what < 0 || what > 1) {
            return -2;
        }
        TreeSet<Integer> domain = now.domains.get(variable);
        for (int value : what == 0 ? domain : domain.descendingSet()) {
            if (now.failed) {
                return -1;
            }
            State s = now.copy();
            s.decide(variable, 1 << value, 100);
            Search search = new Search(s, 0, 0, false, 100, false);
            if (search.dear) {
                return -6;
            }
            if (search.found > 0) {
                return value;
            }
        }
        return -1;
    }

    // ---- what was told

    int tells(int sheet, int what) {
        if (sheet < 0 || sheet > 3 || what < 0 || what > 2) {
            return -2;
        }
        if (sheets[sheet] == null) {
            return -11;
        }
        if (java.lang.reflect.Array.getLength(sheets[sheet]) != 8) {
            return -2;
        }
        int[] values = new int[8];
        StringBuilder digits = new StringBuilder();
        int in = 0;
        for (int v = 0; v < 8; v++) {
            values[v] = item(sheet, v);
            if (values[v] < 0 || values[v] > 9) {
                return -2;
            }
            digits.append(values[v]);
            in += now.domains.get(v).contains(values[v]) ? 1 : 0;
        }
        int set = 0;
        for (int i = 0; i < 12 && what == 0; i++) {
            Search search = new Search(now, i / 3, i % 3, false, 100, false);
            set |= search.found > 0 && search.solution.equals(digits.toString()) ? 1 << i : 0;
        }
        for (int r = 0; r < now.rules.size() && what == 1; r++) {
            set |= now.rules.get(r).holds(values) ? 0 : 1 << r;
        }
        return what == 2 ? in : set;
    }

    int film(int sheet, int choose, int pick) {
        if (sheet < 0 || sheet > 3 || choose < 0 || choose > 3 || pick < 0 || pick > 2) {
            return -2;
        }
        Search search = new Search(now, choose, pick, false, 100, false);
        if (search.dear) {
            return -6;
        }
        if (search.found == 0) {
            return -1;
        }
        int[] row = new int[8];
        for (int v = 0; v < 8; v++) {
            row[v] = search.solution.charAt(v) - '0';
        }
        sheets[sheet] = row;
        return 8;
    }

    int image() {
        image = now.copy();
        return now.trail.size();
    }

    int back() {
        if (image == null) {
            return -3;
        }
        now = image.copy();
        return now.trail.size();
    }

    int count(int what) {
        switch (what) {
            case 0: return now.rules.size();
            case 1: return now.trail.size();
            case 2: return now.decisions.size();
            case 3: return now.levels.size();
            case 4: return now.queue.size();
            case 5: return now.runs;
            case 6: return (int) now.domains.stream().filter(d -> d.size() == 1).count();
            case 7: return tape.length();
            case 8: return now.failed ? 1 : 0;
            default: return -2;
        }
    }

    // ---- the host: truly rows of Java's own sorts, and what Java throws is what is refused

    int sheet(int sheet, int sort, int n) {
        if (sheet < 0 || sheet > 3 || sort < -1 || sort > 2 || sort >= 0 && n > 40) {
            return -2;
        }
        try {
            sheets[sheet] = sort == 0 ? new int[n] : sort == 1 ? new short[n] : sort == 2 ? new byte[n] : null;
        } catch (NegativeArraySizeException e) {
            return -14;
        }
        return 1;
    }

    int put(int sheet, int i, int v) {
        if (sheet < 0 || sheet > 3) {
            return -2;
        }
        try {
            if (sheets[sheet] instanceof short[] row) {
                row[i] = (short) v;
            } else if (sheets[sheet] instanceof byte[] row) {
                row[i] = (byte) v;
            } else {
                ((int[]) sheets[sheet])[i] = v;
            }
        } catch (NullPointerException e) {
            return -11;
        } catch (ArrayIndexOutOfBoundsException e) {
            return -12;
        }
        return 1;
    }

    int item(int sheet, int i) {
        try {
            return java.lang.reflect.Array.getInt(sheets[sheet], i);
        } catch (NullPointerException | ArrayIndexOutOfBoundsException e) {
            return -99999;
        }
    }

    int copy(int sheet, int i, int other, int j, int n) {
        if (sheet < 0 || sheet > 3 || other < 0 || other > 3) {
            return -2;
        }
        try {
            System.arraycopy(sheets[sheet], i, sheets[other], j, n);
        } catch (NullPointerException e) {
            return -11;
        } catch (ArrayStoreException e) {
            return -13;
        } catch (IndexOutOfBoundsException e) {
            return -12;
        }
        return n;
    }

    int load(int sheet, int sort, int from, int n) {
        if (sheet < 0 || sheet > 3 || sort < 0 || sort > 2 || n < 0 || n > 8) {
            return -2;
        }
        if (sheets[sheet] == null) {
            return -11;
        }
        Class<?>[] sorts = {int[].class, short[].class, byte[].class};
        if (!sorts[sort].isInstance(sheets[sheet])) {
            return -13;
        }
        int told = 0;
        for (int k = 0; k < n; k++) {
            long at = from + 2L * k;
            if (at < 0 || at + 1 >= java.lang.reflect.Array.getLength(sheets[sheet])) {
                return -12;
            }
            told += tell(item(sheet, (int) at), item(sheet, (int) at + 1)) >= 0 ? 1 : 0;
        }
        return told;
    }
}
