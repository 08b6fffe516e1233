/** Variables with domains, rules read from texts that prune them, a trail of what went, and searches in thought. */
public final class ValuesGo {
    public static final int NONE = -1, BAD = -2, STATE = -3, FULL = -4, DEAR = -6;
    public static final long NO = -4611686018427387904L;

    private static final int NOTHING_THERE = -11, OUTSIDE = -12, OTHER_SORT = -13, BELOW_ZERO = -14;
    private static final int NO_ITEM = -99999;

    private static final int VARIABLES = 8, VALUES = 10, EVERY_VALUE = 1023, PLACES = VARIABLES * VALUES;
    private static final int PLAIN = 0, REIFIED = 1, DISTINCT = 2;
    private static final int MOST_RULES = 16, MOST_LEARNED = 8, NOGOOD_PRIORITY = 9;
    /** NOBODY is a ninth variable that has but the value 0: it fills the slots that a rule leaves empty. */
    private static final int NOBODY = VARIABLES;
    private static final int SLOTS = 3, WAYS = VALUES * VALUES;
    private static final int MOST_DECISIONS = 12, MOST_LEVELS = 8, DECIDED = 100;
    private static final int MOST_TRIES = 100, MOST_TRIES_FOR_ALL = 300;
    private static final int CHOOSERS = 4, PICKERS = 3;
    private static final int TAPE = 90, MOST_DIGITS = 4, MOST_OPEN = 5;
    private static final int SHEETS = 4, MOST_ITEMS = 40, MISSING = -1, INTS = 0, SHORTS = 1, BYTES = 2;
    private static final int OF_A_VALUE = 1000;
    /** Far above what any loop without a bound in the document needs. */
    private static final int MANY = 1000000;

    private final Rules rules;
    private final Reader reader;
    private final Hall hall;
    private final Past past;
    private final Hall thought;
    private final Hall trial;
    private final Search search;
    private final Hall keptHall;
    private final Past keptPast;
    private final Sheet[] sheets;
    /** The last is NOBODY's. */
    private final int[] toldValues;
    private int keptRules;
    private boolean imaged;

    public ValuesGo() {
        rules = new Rules();
        reader = new Reader();
        hall = new Hall(rules);
        past = new Past();
        thought = new Hall(rules);
        trial = new Hall(rules);
        search = new Search(rules, past, thought, trial);
        keptHall = new Hall(rules);
        keptPast = new Past();
        sheets = new Sheet[SHEETS];
        for (int i = 0; i < SHEETS; i++) {
            sheets[i] = new Sheet();
        }
        toldValues = new int[VARIABLES + 1];
        keptRules = 0;
        imaged = false;
    }

    // ---- rules

    public int feed(int letter) {
        if (letter < 0 || letter > 255) {
            return BAD;
        }
        return reader.accept(letter) ? reader.size : FULL;
    }

    public int rule() {
        if (rules.size >= MOST_RULES) {
            return FULL;
        }
        if (hall.failed) {
            return STATE;
        }
        int fault = reader.read();
        reader.size = 0;
        if (fault != NONE) {
            return -100 - fault;
        }
        int number = rules.add(reader);
        hall.taking = rules.all();
        hall.queue |= 1 << number;
        return number;
    }

    public int told(int rule, int what) {
        if (!isRule(rule)) {
            return BAD;
        }
        switch (what) {
            case 0: return rules.kinds[rule];
            case 1: return rules.variables[rule];
            case 2: return rules.priorities[rule];
            case 3: return hall.queue >> rule & 1;
            case 4: return isIdle(rule) ? 1 : 0;
            case 5: return rules.countWays(rule, hall.domains);
            case 6: return hall.wentBy(rule);
            default: return BAD;
        }
    }

    public int holds(int rule, int x, int y, int z) {
        if (!isRule(rule)) {
            return BAD;
        }
        int many = rules.howMany(rule);
        if (many > 0 && !isValue(x) || many > 1 && !isValue(y) || many > 2 && !isValue(z)) {
            return BAD;
        }
        switch (many) {
            case 0: return rules.isWay(rule, 0, 0, 0) ? 1 : 0;
            case 1: return rules.isWay(rule, 0, 0, x) ? 1 : 0;
            case 2: return rules.isWay(rule, 0, x, y) ? 1 : 0;
            default: return rules.isWay(rule, x, y, z) ? 1 : 0;
        }
    }

    public int taken(int rule, int k) {
        if (k < PLAIN || k > DISTINCT) {
            return BAD;
        }
        if (!isRule(rule)) {
            return NOTHING_THERE;
        }
        int kind = rules.kinds[rule];
        if (kind != k && !(kind == REIFIED && k == PLAIN)) {
            return OTHER_SORT;
        }
        return rules.howMany(rule);
    }

    // ---- values that go

    public int tell(int variable, int set) {
        if (!isVariable(variable) || set < 0 || set > EVERY_VALUE) {
            return BAD;
        }
        if (hall.failed) {
            return STATE;
        }
        if (past.decisions >= MOST_DECISIONS) {
            return FULL;
        }
        int number = past.decide(variable, set);
        return hall.narrow(variable, set, DECIDED + number);
    }

    public int step() {
        return hall.runOne();
    }

    public int run() {
        return hall.runAll();
    }

    public int level() {
        if (hall.failed || hall.queue != 0) {
            return STATE;
        }
        if (past.levels >= MOST_LEVELS) {
            return FULL;
        }
        return past.open(hall.went, rules.size);
    }

    public int undo() {
        if (past.levels <= 0) {
            return STATE;
        }
        int at = past.close();
        int before = hall.went;
        hall.takeBack(past.wentAt[at]);
        // The rules that came since had pruned what is there again, so they are to run anew.
        hall.queue = rules.all() & -(1 << past.rulesAt[at]);
        return before - hall.went;
    }

    public int domain(int variable) {
        return isVariable(variable) ? hall.domains[variable] : BAD;
    }

    public int trail(int i, int what) {
        if (what >= OF_A_VALUE && what < OF_A_VALUE + PLACES) {
            return hall.placeOf(what - OF_A_VALUE);
        }
        if (what < 0 || what > 1) {
            return BAD;
        }
        if (i < 0 || i >= hall.went) {
            return OUTSIDE;
        }
        return what == 0 ? hall.wentValue[i] : hall.wentReason[i];
    }

    public int decision(int i, int what) {
        if (what < 0 || what > 1) {
            return BAD;
        }
        if (i < 0 || i >= past.decisions) {
            return OUTSIDE;
        }
        return what == 0 ? past.variables[i] : past.sets[i];
    }

    public int why(int variable, int value) {
        boolean ofFailure = variable == -1;
        if (!ofFailure && (!isVariable(variable) || !isValue(value))) {
            return BAD;
        }
        int left = past.all();
        if (!isGone(left, variable, value)) {
            return NONE;
        }
        for (int i = 0; i < past.decisions; i++) {
            int fewer = left & ~(1 << i);
            if (isGone(fewer, variable, value)) {
                left = fewer;
            }
        }
        return left;
    }

    public int mixed(int seed, int variable) {
        if (!isVariable(variable)) {
            return BAD;
        }
        thought.start(past, past.all(), rules.all());
        thought.shuffle(seed);
        thought.runAll();
        thought.inOrder();
        return thought.failed ? NONE : thought.domains[variable];
    }

    // ---- solutions

    public int search(int choose, int pick, int learn, int what) {
        if (!isChoice(choose, pick) || learn < 0 || learn > 1 || what < 0 || what > 3) {
            return BAD;
        }
        thought.become(hall);
        search.go(choose, pick, learn == 1, MOST_TRIES, false);
        if (search.dear) {
            return DEAR;
        }
        switch (what) {
            case 0: return search.found > 0 ? search.digits() : NONE;
            case 1: return search.tries;
            case 2: return search.fails;
            default: return search.learned;
        }
    }

    public long solutions() {
        thought.become(hall);
        search.go(0, 0, false, MOST_TRIES_FOR_ALL, true);
        return search.dear ? NO : search.found;
    }

    public int reach(int variable, int what) {
        if (!isVariable(variable) || what < 0 || what > 1) {
            return BAD;
        }
        for (int i = 0; i < VALUES; i++) {
            int value = what == 0 ? i : VALUES - 1 - i;
            if (hall.failed || (hall.domains[variable] >> value & 1) == 0) {
                continue;
            }
            thought.become(hall);
            thought.narrow(variable, 1 << value, DECIDED);
            search.go(0, 0, false, MOST_TRIES, false);
            if (search.dear) {
                return DEAR;
            }
            if (search.found > 0) {
                return value;
            }
        }
        return NONE;
    }

    // ---- what was told

    public int tells(int sheet, int what) {
        if (!isSheet(sheet) || what < 0 || what > 2) {
            return BAD;
        }
        Sheet told = sheets[sheet];
        if (told.isMissing()) {
            return NOTHING_THERE;
        }
        if (!readValues(told)) {
            return BAD;
        }
        switch (what) {
            case 0: return choicesThatFind();
            case 1: return rules.notHolding(toldValues);
            default: return hall.howManyIn(toldValues);
        }
    }

    public int film(int sheet, int choose, int pick) {
        if (!isSheet(sheet) || !isChoice(choose, pick)) {
            return BAD;
        }
        thought.become(hall);
        search.go(choose, pick, false, MOST_TRIES, false);
        if (search.dear) {
            return DEAR;
        }
        if (search.found == 0) {
            return NONE;
        }
        Sheet shown = sheets[sheet];
        shown.become(INTS, VARIABLES);
        for (int v = 0; v < VARIABLES; v++) {
            shown.items[v] = search.solution[v];
        }
        return VARIABLES;
    }

    public int image() {
        keptHall.become(hall);
        keptPast.become(past);
        keptRules = rules.size;
        imaged = true;
        return hall.went;
    }

    public int back() {
        if (!imaged) {
            return STATE;
        }
        hall.become(keptHall);
        past.become(keptPast);
        // A rule's number is given anew only above these, so what they are needs no keeping.
        rules.size = keptRules;
        return hall.went;
    }

    public int count(int what) {
        switch (what) {
            case 0: return rules.size;
            case 1: return hall.went;
            case 2: return past.decisions;
            case 3: return past.levels;
            case 4: return Integer.bitCount(hall.queue);
            case 5: return hall.runs;
            case 6: return hall.howManySettled();
            case 7: return reader.size;
            case 8: return hall.failed ? 1 : 0;
            default: return BAD;
        }
    }

    // ---- the host

    public int sheet(int sheet, int sort, int n) {
        if (!isSheet(sheet) || sort < MISSING || sort > BYTES) {
            return BAD;
        }
        if (sort != MISSING && n > MOST_ITEMS) {
            return BAD;
        }
        if (sort != MISSING && n < 0) {
            return BELOW_ZERO;
        }
        sheets[sheet].become(sort, n);
        return 1;
    }

    public int put(int sheet, int i, int v) {
        if (!isSheet(sheet)) {
            return BAD;
        }
        Sheet changed = sheets[sheet];
        if (changed.isMissing()) {
            return NOTHING_THERE;
        }
        if (!changed.has(i)) {
            return OUTSIDE;
        }
        changed.items[i] = changed.cut(v);
        return 1;
    }

    public int item(int sheet, int i) {
        if (!isSheet(sheet) || !sheets[sheet].has(i)) {
            return NO_ITEM;
        }
        return sheets[sheet].items[i];
    }

    public int copy(int sheet, int i, int other, int j, int n) {
        if (!isSheet(sheet) || !isSheet(other)) {
            return BAD;
        }
        Sheet from = sheets[sheet];
        Sheet to = sheets[other];
        if (from.isMissing() || to.isMissing()) {
            return NOTHING_THERE;
        }
        if (from.sort != to.sort) {
            return OTHER_SORT;
        }
        if (!from.hasRow(i, n) || !to.hasRow(j, n)) {
            return OUTSIDE;
        }
        System.arraycopy(from.items, i, to.items, j, n);
        return n;
    }

    public int load(int sheet, int sort, int from, int n) {
        if (!isSheet(sheet) || sort < INTS || sort > BYTES || n < 0 || n > 8) {
            return BAD;
        }
        Sheet read = sheets[sheet];
        if (read.isMissing()) {
            return NOTHING_THERE;
        }
        if (read.sort != sort) {
            return OTHER_SORT;
        }
        int told = 0;
        for (int k = 0; k < n; k++) {
            int at = from + 2 * k;
            if (!read.has(at) || !read.has(at + 1)) {
                return OUTSIDE;
            }
            if (tell(read.items[at], read.items[at + 1]) >= 0) {
                told++;
            }
        }
        return told;
    }

    // ---- what several of these need

    private static boolean isVariable(int variable) {
        return variable >= 0 && variable < VARIABLES;
    }

    private static boolean isValue(int value) {
        return value >= 0 && value < VALUES;
    }

    private static boolean isSheet(int sheet) {
        return sheet >= 0 && sheet < SHEETS;
    }

    private static boolean isChoice(int choose, int pick) {
        return choose >= 0 && choose < CHOOSERS && pick >= 0 && pick < PICKERS;
    }

    private boolean isRule(int rule) {
        return rule >= 0 && rule < rules.size;
    }

    private boolean isIdle(int rule) {
        thought.start(past, past.all(), rules.all());
        thought.runAll();
        trial.start(past, past.all(), rules.all() & ~(1 << rule));
        trial.runAll();
        return thought.isLike(trial);
    }

    /** With all FAILED no value is left to stand, so there each counts as gone. */
    private boolean isGone(int decisions, int variable, int value) {
        thought.start(past, decisions, rules.all());
        thought.runAll();
        return thought.failed || isVariable(variable) && (thought.domains[variable] >> value & 1) == 0;
    }

    private boolean readValues(Sheet told) {
        if (told.size != VARIABLES) {
            return false;
        }
        for (int v = 0; v < VARIABLES; v++) {
            toldValues[v] = told.items[v];
            if (!isValue(toldValues[v])) {
                return false;
            }
        }
        return true;
    }

    private int choicesThatFind() {
        // No search finds a value that has gone: this spares most of the searching.
        if (hall.howManyIn(toldValues) < VARIABLES) {
            return 0;
        }
        int choices = 0;
        for (int i = 0; i < CHOOSERS * PICKERS; i++) {
            thought.become(hall);
            search.go(i / PICKERS, i % PICKERS, false, MOST_TRIES, false);
            if (!search.dear && search.found > 0 && search.isSolution(toldValues)) {
                choices |= 1 << i;
            }
        }
        return choices;
    }

    /** The tape, and its text read into one rule: a test as steps on a stack. */
    private static final class Reader {
        /** Kinds of tokens; that of a sign is its byte. */
        private static final int END = 0, NUMBER = 1, NAME = 2, WORD_DISTINCT = 3, NO_TOKEN = 4;
        /** Steps; a number is a step that stands for itself. */
        private static final int OF_VARIABLE = 10000, NEGATE = OF_VARIABLE + VARIABLES, OF_SIGN = 10100;
        private static final String DISTINCT_WORD = "distinct";
        private static final String SIGNS = "():+-*<=>!";

        private final int[] tape = new int[TAPE];
        private final int[] tokens = new int[TAPE + 1];
        private final int[] places = new int[TAPE + 1];
        private final int[] numbers = new int[TAPE + 1];
        private final int[] steps = new int[TAPE];
        private final int[] stack = new int[TAPE];
        private int size;
        private int tokensSize;
        private int at;
        private int stepsSize;
        private int kind;
        private int variables;
        private int name;
        private int comparison;

        private boolean accept(int letter) {
            if (size >= TAPE) {
                return false;
            }
            tape[size] = letter;
            size++;
            return true;
        }

        /** The place of the text's fault, or NONE. */
        private int read() {
            split();
            at = 0;
            stepsSize = 0;
            variables = 0;
            boolean right = token() == WORD_DISTINCT ? distinct() : tested();
            return right && token() == END ? NONE : places[at];
        }

        private int token() {
            return tokens[at];
        }

        /** The end's token is behind all others and is never passed. */
        private void pass() {
            if (at < tokensSize - 1) {
                at++;
            }
        }

        private void split() {
            tokensSize = 0;
            int place = 0;
            for (int i = 0; i < TAPE && place < size; i++) {
                if (tape[place] == 32 || tape[place] == 10) {
                    place++;
                } else {
                    int end = endOfToken(place);
                    addToken(kindOfToken(place, end), place);
                    place = end;
                }
            }
            addToken(END, size);
        }

        private void addToken(int token, int place) {
            tokens[tokensSize] = token;
            places[tokensSize] = place;
            tokensSize++;
        }

        private int endOfToken(int place) {
            int end = place + 1;
            if (isDigit(tape[place])) {
                while (end < size && isDigit(tape[end])) {
                    end++;
                }
            } else if (isSmall(tape[place])) {
                while (end < size && isSmall(tape[end])) {
                    end++;
                }
            }
            return end;
        }

        private int kindOfToken(int place, int end) {
            int letter = tape[place];
            if (isDigit(letter)) {
                numbers[tokensSize] = numberAt(place, end);
                return end - place <= MOST_DIGITS ? NUMBER : NO_TOKEN;
            }
            if (isSmall(letter)) {
                numbers[tokensSize] = letter - 'a';
                if (end - place == 1) {
                    return isVariable(letter - 'a') ? NAME : NO_TOKEN;
                }
                return isDistinctAt(place, end) ? WORD_DISTINCT : NO_TOKEN;
            }
            return SIGNS.indexOf((char) letter) >= 0 ? letter : NO_TOKEN;
        }

        private int numberAt(int place, int end) {
            int number = 0;
            for (int i = place; i < end; i++) {
                number = number * 10 + tape[i] - '0';
            }
            return number;
        }

        private boolean isDistinctAt(int place, int end) {
            if (end - place != DISTINCT_WORD.length()) {
                return false;
            }
            for (int i = place; i < end; i++) {
                if (tape[i] != DISTINCT_WORD.charAt(i - place)) {
                    return false;
                }
            }
            return true;
        }

        private static boolean isDigit(int letter) {
            return letter >= '0' && letter <= '9';
        }

        private static boolean isSmall(int letter) {
            return letter >= 'a' && letter <= 'z';
        }

        private boolean distinct() {
            kind = DISTINCT;
            pass();
            for (int i = 0; i < SLOTS; i++) {
                if (token() != NAME || (variables >> numbers[at] & 1) == 1) {
                    return i == SLOTS - 1 && token() == END;
                }
                variables |= 1 << numbers[at];
                pass();
            }
            return true;
        }

        private boolean tested() {
            kind = PLAIN;
            if (token() == NAME && tokens[at + 1] == ':') {
                kind = REIFIED;
                name = numbers[at];
                variables = 1 << name;
                pass();
                pass();
            }
            if (!sum(0)) {
                return false;
            }
            comparison = token();
            if (comparison != '<' && comparison != '=' && comparison != '>' && comparison != '!') {
                return false;
            }
            pass();
            return sum(0);
        }

        /** The depth is how many brackets and signs ahead of a ONE are open; one() lets it grow to MOST_OPEN. */
        private boolean sum(int depth) {
            if (!term(depth)) {
                return false;
            }
            for (int i = 0; i < TAPE && (token() == '+' || token() == '-'); i++) {
                int sign = token();
                pass();
                if (!term(depth)) {
                    return false;
                }
                emit(OF_SIGN + sign);
            }
            return true;
        }

        private boolean term(int depth) {
            if (!one(depth)) {
                return false;
            }
            for (int i = 0; i < TAPE && token() == '*'; i++) {
                pass();
                if (!one(depth)) {
                    return false;
                }
                emit(OF_SIGN + '*');
            }
            return true;
        }

        private boolean one(int depth) {
            if (token() == NUMBER) {
                emit(numbers[at]);
                pass();
                return true;
            }
            if (token() == NAME) {
                return named();
            }
            if (depth >= MOST_OPEN) {
                return false;
            }
            if (token() == '-') {
                pass();
                boolean right = one(depth + 1);
                emit(NEGATE);
                return right;
            }
            return token() == '(' && bracketed(depth + 1);
        }

        private boolean bracketed(int depth) {
            pass();
            if (!sum(depth) || token() != ')') {
                return false;
            }
            pass();
            return true;
        }

        private boolean named() {
            int more = variables | 1 << numbers[at];
            if (Integer.bitCount(more) > SLOTS) {
                return false;
            }
            variables = more;
            emit(OF_VARIABLE + numbers[at]);
            pass();
            return true;
        }

        private void emit(int step) {
            if (stepsSize < steps.length) {
                steps[stepsSize] = step;
                stepsSize++;
            }
        }

        /** Whether the rule that was read holds for these values, one for each variable. */
        private boolean holdsFor(int[] values) {
            if (kind == DISTINCT) {
                return areUnlike(values);
            }
            boolean does = testHolds(values);
            if (kind == PLAIN) {
                return does;
            }
            return values[name] == (does ? 1 : 0);
        }

        private boolean areUnlike(int[] values) {
            int seen = 0;
            for (int v = 0; v < VARIABLES; v++) {
                if ((variables >> v & 1) == 0) {
                    continue;
                }
                if ((seen >> values[v] & 1) == 1) {
                    return false;
                }
                seen |= 1 << values[v];
            }
            return true;
        }

        private boolean testHolds(int[] values) {
            int top = 0;
            for (int i = 0; i < stepsSize; i++) {
                int step = steps[i];
                if (step < NEGATE && top < stack.length) {
                    stack[top] = step < OF_VARIABLE ? step : values[step - OF_VARIABLE];
                    top++;
                } else if (step == NEGATE && top > 0) {
                    stack[top - 1] = -stack[top - 1];
                } else if (step > NEGATE && top > 1) {
                    top--;
                    stack[top - 1] = joined(step - OF_SIGN, stack[top - 1], stack[top]);
                }
            }
            return top == 2 && isSo(stack[0], stack[1]);
        }

        private static int joined(int sign, int left, int right) {
            switch (sign) {
                case '+': return left + right;
                case '-': return left - right;
                default: return left * right;
            }
        }

        private boolean isSo(int left, int right) {
            switch (comparison) {
                case '<': return left < right;
                case '=': return left == right;
                case '>': return left > right;
                default: return left != right;
            }
        }
    }

    /** What rules there are, and behind them those that a search has learned; each plain one as a table of its ways. */
    private static final class Rules {
        private final int[] kinds = new int[MOST_RULES];
        private final int[] variables = new int[MOST_RULES + MOST_LEARNED];
        private final int[] priorities = new int[MOST_RULES + MOST_LEARNED];
        /** The rules (bits) that each variable stands in. */
        private final int[] having = new int[VARIABLES];
        /** Three slots a rule, its variables in the last of them, ahead of these NOBODY. */
        private final int[] slots = new int[MOST_RULES * SLOTS];
        /** For the values of a rule's first two slots, the values (bits) of the third with which it holds. */
        private final int[] ways = new int[MOST_RULES * WAYS];
        /** Of each learned rule the value (a bit) that each variable is paired with, or 0. */
        private final int[] pairs = new int[MOST_LEARNED * VARIABLES];
        private final int[] values = new int[VARIABLES + 1];
        private int size;

        private int all() {
            return (1 << size) - 1;
        }

        private int howMany(int rule) {
            return Integer.bitCount(variables[rule]);
        }

        /** The caller has seen that there is room for one more. */
        private int add(Reader text) {
            int rule = size;
            size++;
            kinds[rule] = text.kind;
            enter(rule, text.variables, Integer.bitCount(text.variables) + text.kind);
            fillSlots(rule);
            fillWays(rule, text);
            return rule;
        }

        private void enter(int rule, int itsVariables, int priority) {
            variables[rule] = itsVariables;
            priorities[rule] = priority;
            for (int v = 0; v < VARIABLES; v++) {
                having[v] = having[v] & ~(1 << rule) | (itsVariables >> v & 1) << rule;
            }
        }

        private void fillSlots(int rule) {
            int slot = rule * SLOTS;
            int behind = slot + SLOTS;
            for (int empty = SLOTS - howMany(rule); empty > 0; empty--) {
                slots[slot] = NOBODY;
                slot++;
            }
            for (int v = 0; v < VARIABLES && slot < behind; v++) {
                if ((variables[rule] >> v & 1) == 1) {
                    slots[slot] = v;
                    slot++;
                }
            }
        }

        private void fillWays(int rule, Reader text) {
            int first = slots[rule * SLOTS];
            int second = slots[rule * SLOTS + 1];
            for (int i = 0; i < WAYS; i++) {
                values[first] = i / VALUES;
                values[second] = i % VALUES;
                boolean real = (first != NOBODY || i < VALUES) && (second != NOBODY || i % VALUES == 0);
                ways[rule * WAYS + i] = real ? lastValues(rule, text) : 0;
            }
        }

        private int lastValues(int rule, Reader text) {
            int last = slots[rule * SLOTS + 2];
            int many = last == NOBODY ? 1 : VALUES;
            int holding = 0;
            for (int z = 0; z < many; z++) {
                values[last] = z;
                if (text.holdsFor(values)) {
                    holding |= 1 << z;
                }
            }
            return holding;
        }

        private boolean isWay(int rule, int x, int y, int z) {
            return (ways[rule * WAYS + x * VALUES + y] >> z & 1) == 1;
        }

        private int countWays(int rule, int[] domains) {
            int first = domains[slots[rule * SLOTS]];
            int second = domains[slots[rule * SLOTS + 1]];
            int third = domains[slots[rule * SLOTS + 2]];
            int count = 0;
            for (int i = 0; i < WAYS; i++) {
                if ((first >> i / VALUES & second >> i % VALUES & 1) == 1) {
                    count += Integer.bitCount(ways[rule * WAYS + i] & third);
                }
            }
            return count;
        }

        /** The rules (bits) that don't hold for the values told. */
        private int notHolding(int[] told) {
            int failing = 0;
            for (int rule = 0; rule < size; rule++) {
                int slot = rule * SLOTS;
                if (!isWay(rule, told[slots[slot]], told[slots[slot + 1]], told[slots[slot + 2]])) {
                    failing |= 1 << rule;
                }
            }
            return failing;
        }

        /** What a rule that was told leaves of the domains of its variables. */
        private void sift(int rule, int[] domains, int[] sifted) {
            int slot = rule * SLOTS;
            int first = domains[slots[slot]];
            int second = domains[slots[slot + 1]];
            int third = domains[slots[slot + 2]];
            int firstLeft = 0;
            int secondLeft = 0;
            int thirdLeft = 0;
            for (int x = 0; x < VALUES; x++) {
                if ((first >> x & 1) == 0) {
                    continue;
                }
                int at = rule * WAYS + x * VALUES;
                for (int y = 0; y < VALUES; y++) {
                    int with = (second >> y & 1) == 0 ? 0 : ways[at + y] & third;
                    if (with != 0) {
                        firstLeft |= 1 << x;
                        secondLeft |= 1 << y;
                        thirdLeft |= with;
                    }
                }
            }
            sifted[slots[slot]] = firstLeft;
            sifted[slots[slot + 1]] = secondLeft;
            sifted[slots[slot + 2]] = thirdLeft;
        }

        /** A pair's value can't be had once all other pairs are so for certain. */
        private void siftLearned(int rule, int[] domains, int[] sifted) {
            int at = (rule - MOST_RULES) * VARIABLES;
            int open = 0;
            for (int v = 0; v < VARIABLES; v++) {
                open += pairs[at + v] != 0 && pairs[at + v] != domains[v] ? 1 : 0;
            }
            for (int v = 0; v < VARIABLES; v++) {
                int others = pairs[at + v] == domains[v] ? open : open - 1;
                sifted[v] = others == 0 ? domains[v] & ~pairs[at + v] : domains[v];
            }
        }

        /** The caller has seen that there is room for one more. */
        private int learn(int place, int itsVariables, int[] itsPairs) {
            int rule = MOST_RULES + place;
            enter(rule, itsVariables, NOGOOD_PRIORITY);
            System.arraycopy(itsPairs, 0, pairs, place * VARIABLES, VARIABLES);
            return rule;
        }
    }

    /** Domains, the trail of what went from them, and the queue of the rules that are to run. */
    private static final class Hall {
        private final Rules rules;
        /** The last is NOBODY's. */
        private final int[] domains = new int[VARIABLES + 1];
        private final int[] sifted = new int[VARIABLES + 1];
        private final int[] wentValue = new int[PLACES];
        private final int[] wentReason = new int[PLACES];
        private int went;
        /** The rules (bits) that may come to the queue. */
        private int taking;
        private int queue;
        private int runs;
        private boolean failed;
        private boolean shuffled;
        private int seed;

        private Hall(Rules rules) {
            this.rules = rules;
            domains[NOBODY] = 1;
            clear(0);
        }

        private void clear(int toTake) {
            for (int v = 0; v < VARIABLES; v++) {
                domains[v] = EVERY_VALUE;
            }
            went = 0;
            taking = toTake;
            queue = 0;
            failed = false;
        }

        private void become(Hall other) {
            System.arraycopy(other.domains, 0, domains, 0, VARIABLES);
            System.arraycopy(other.wentValue, 0, wentValue, 0, PLACES);
            System.arraycopy(other.wentReason, 0, wentReason, 0, PLACES);
            went = other.went;
            taking = other.taking;
            queue = other.queue;
            runs = other.runs;
            failed = other.failed;
        }

        /** All but the given values go: how many went. */
        private int narrow(int variable, int set, int reason) {
            int before = went;
            drop(variable, domains[variable] & ~set, reason);
            if (went > before) {
                wake(rules.having[variable]);
            }
            return went - before;
        }

        private void drop(int variable, int set, int reason) {
            for (int value = 0; value < VALUES; value++) {
                if ((set >> value & 1) == 1 && went < PLACES) {
                    domains[variable] &= ~(1 << value);
                    wentValue[went] = variable * VALUES + value;
                    wentReason[went] = reason;
                    went++;
                }
            }
            failed = failed || domains[variable] == 0;
        }

        private void wake(int some) {
            queue = failed ? 0 : queue | some & taking;
        }

        /** A run of the rule whose turn it is: which one, or NONE. */
        private int runOne() {
            int rule = shuffled ? shuffledNext() : orderedNext();
            if (rule == NONE) {
                return NONE;
            }
            queue &= ~(1 << rule);
            runs++;
            if (rule < MOST_RULES) {
                rules.sift(rule, domains, sifted);
            } else {
                rules.siftLearned(rule, domains, sifted);
            }
            int woken = 0;
            for (int v = 0; v < VARIABLES && !failed; v++) {
                if ((rules.variables[rule] >> v & 1) == 1 && domains[v] != sifted[v]) {
                    drop(v, domains[v] & ~sifted[v], rule);
                    woken |= rules.having[v];
                }
            }
            wake(woken & ~(1 << rule));
            return rule;
        }

        private int orderedNext() {
            int next = NONE;
            for (int rule = 0; rule < MOST_RULES + MOST_LEARNED && queue >> rule != 0; rule++) {
                boolean waits = (queue >> rule & 1) == 1;
                if (waits && (next == NONE || rules.priorities[rule] < rules.priorities[next])) {
                    next = rule;
                }
            }
            return next;
        }

        private int shuffledNext() {
            int waiting = Integer.bitCount(queue);
            if (waiting == 0) {
                return NONE;
            }
            seed = seed * 1103515245 + 12345;
            int place = (seed >>> 9) % waiting;
            for (int rule = 0; rule < MOST_RULES + MOST_LEARNED; rule++) {
                place -= queue >> rule & 1;
                if (place < 0) {
                    return rule;
                }
            }
            return NONE;
        }

        private void shuffle(int by) {
            shuffled = true;
            seed = by;
        }

        private void inOrder() {
            shuffled = false;
        }

        private int runAll() {
            int many = 0;
            while (many < MANY && queue != 0) {
                runOne();
                many++;
            }
            return many;
        }

        /** Stands FROM START as it is ahead of the runs. */
        private void start(Past past, int decisions, int toTake) {
            clear(toTake);
            for (int i = 0; i < past.decisions && !failed; i++) {
                if ((decisions >> i & 1) == 1) {
                    narrow(past.variables[i], past.sets[i], DECIDED + i);
                }
            }
            wake(taking);
        }

        private void takeBack(int mark) {
            for (int i = went - 1; i >= mark; i--) {
                domains[wentValue[i] / VALUES] |= 1 << wentValue[i] % VALUES;
            }
            went = mark;
            queue = 0;
            failed = false;
        }

        private boolean isLike(Hall other) {
            if (failed || other.failed) {
                return failed && other.failed;
            }
            for (int v = 0; v < VARIABLES; v++) {
                if (domains[v] != other.domains[v]) {
                    return false;
                }
            }
            return true;
        }

        private boolean isSettled(int variable) {
            return Integer.bitCount(domains[variable]) == 1;
        }

        private int howManySettled() {
            int settled = 0;
            for (int v = 0; v < VARIABLES; v++) {
                settled += isSettled(v) ? 1 : 0;
            }
            return settled;
        }

        private int howManyIn(int[] values) {
            int in = 0;
            for (int v = 0; v < VARIABLES; v++) {
                in += domains[v] >> values[v] & 1;
            }
            return in;
        }

        private int wentBy(int reason) {
            int many = 0;
            for (int i = 0; i < went; i++) {
                many += wentReason[i] == reason ? 1 : 0;
            }
            return many;
        }

        private int placeOf(int value) {
            for (int i = 0; i < went; i++) {
                if (wentValue[i] == value) {
                    return i;
                }
            }
            return NONE;
        }
    }

    /** The decisions told and the levels opened. */
    private static final class Past {
        private final int[] variables = new int[MOST_DECISIONS];
        private final int[] sets = new int[MOST_DECISIONS];
        private final int[] wentAt = new int[MOST_LEVELS];
        private final int[] decisionsAt = new int[MOST_LEVELS];
        private final int[] rulesAt = new int[MOST_LEVELS];
        private int decisions;
        private int levels;

        private int all() {
            return (1 << decisions) - 1;
        }

        /** The caller has seen that there is room for one more. */
        private int decide(int variable, int set) {
            variables[decisions] = variable;
            sets[decisions] = set;
            decisions++;
            return decisions - 1;
        }

        /** The caller has seen that there is room for one more. */
        private int open(int went, int rules) {
            wentAt[levels] = went;
            decisionsAt[levels] = decisions;
            rulesAt[levels] = rules;
            levels++;
            return levels;
        }

        /** The caller has seen that there is one. */
        private int close() {
            levels--;
            decisions = decisionsAt[levels];
            return levels;
        }

        private void become(Past other) {
            System.arraycopy(other.variables, 0, variables, 0, MOST_DECISIONS);
            System.arraycopy(other.sets, 0, sets, 0, MOST_DECISIONS);
            System.arraycopy(other.wentAt, 0, wentAt, 0, MOST_LEVELS);
            System.arraycopy(other.decisionsAt, 0, decisionsAt, 0, MOST_LEVELS);
            System.arraycopy(other.rulesAt, 0, rulesAt, 0, MOST_LEVELS);
            decisions = other.decisions;
            levels = other.levels;
        }
    }

    /** A search in thought: it tries, turns back, and learns what can't be had together. */
    private static final class Search {
        private final Rules rules;
        private final Past past;
        private final Hall thought;
        private final Hall trial;
        /** The tries not turned back; each settles a variable, so there are as many as these at most. */
        private final int[] triedVariable = new int[VARIABLES];
        private final int[] triedSet = new int[VARIABLES];
        private final int[] wentAt = new int[VARIABLES];
        private final int[] pairSets = new int[VARIABLES];
        private final int[] solution = new int[VARIABLES];
        private int open;
        private int tries;
        private int fails;
        private int learned;
        private int found;
        private boolean dear;

        private Search(Rules rules, Past past, Hall thought, Hall trial) {
            this.rules = rules;
            this.past = past;
            this.thought = thought;
            this.trial = trial;
        }

        /** Searches on from what the thought is. */
        private void go(int choose, int pick, boolean learning, int most, boolean all) {
            open = 0;
            tries = 0;
            fails = 0;
            learned = 0;
            found = 0;
            dear = false;
            boolean tried = false;
            boolean going = true;
            for (int i = 0; i < MANY && going; i++) {
                thought.runAll();
                if (thought.failed) {
                    fails++;
                    int lesson = learning && tried ? learnFromTries() : NONE;
                    going = turnBack(lesson);
                    tried = false;
                } else if (thought.howManySettled() == VARIABLES) {
                    keepSolution();
                    going = all && turnBack(NONE);
                    tried = false;
                } else if (tries >= most) {
                    dear = true;
                    going = false;
                } else {
                    tried = tryOne(choose, pick);
                    going = tried;
                }
            }
        }

        private void keepSolution() {
            found++;
            for (int v = 0; v < VARIABLES; v++) {
                solution[v] = least(thought.domains[v], 0);
            }
        }

        private boolean tryOne(int choose, int pick) {
            int variable = chosen(choose);
            if (variable == NONE || open >= VARIABLES) {
                return false;
            }
            int set = 1 << picked(thought.domains[variable], pick);
            triedVariable[open] = variable;
            triedSet[open] = set;
            wentAt[open] = thought.went;
            open++;
            tries++;
            thought.narrow(variable, set, DECIDED);
            return true;
        }

        /** Rules out the value of the latest try and lets a lesson from it run; false if there is no try. */
        private boolean turnBack(int lesson) {
            if (open <= 0) {
                return false;
            }
            open--;
            thought.takeBack(wentAt[open]);
            int variable = triedVariable[open];
            thought.narrow(variable, thought.domains[variable] & ~triedSet[open], DECIDED);
            if (lesson != NONE) {
                thought.taking |= 1 << lesson;
                thought.wake(1 << lesson);
            }
            return true;
        }

        private int chosen(int choose) {
            int best = NONE;
            int bestWorth = 0;
            for (int v = 0; v < VARIABLES; v++) {
                if (thought.isSettled(v)) {
                    continue;
                }
                int worth = worthOf(choose, v);
                if (best == NONE || worth > bestWorth) {
                    best = v;
                    bestWorth = worth;
                }
            }
            return best;
        }

        private int worthOf(int choose, int variable) {
            switch (choose) {
                case 1: return -Integer.bitCount(thought.domains[variable]);
                case 2: return Integer.bitCount(thought.domains[variable]);
                case 3: return Integer.bitCount(rules.having[variable] & rules.all());
                default: return 0;
            }
        }

        private static int picked(int domain, int pick) {
            int many = Integer.bitCount(domain);
            switch (pick) {
                case 1: return least(domain, many - 1);
                case 2: return least(domain, many / 2);
                default: return least(domain, 0);
            }
        }

        /** The value of a domain with so many below it. */
        private static int least(int domain, int below) {
            int left = below;
            for (int value = 0; value < VALUES; value++) {
                left -= domain >> value & 1;
                if (left < 0) {
                    return value;
                }
            }
            return 0;
        }

        /** The rule that the open tries teach, or NONE. */
        private int learnFromTries() {
            if (learned >= MOST_LEARNED) {
                return NONE;
            }
            int pairs = (1 << open) - 1;
            startTrial(pairs);
            trial.runAll();
            if (!trial.failed) {
                return NONE;
            }
            for (int i = 0; i < open; i++) {
                int fewer = pairs & ~(1 << i);
                startTrial(fewer);
                trial.runAll();
                if (trial.failed) {
                    pairs = fewer;
                }
            }
            return learn(pairs);
        }

        private int learn(int pairs) {
            int itsVariables = 0;
            for (int v = 0; v < VARIABLES; v++) {
                pairSets[v] = 0;
            }
            for (int i = 0; i < open; i++) {
                if ((pairs >> i & 1) == 1) {
                    itsVariables |= 1 << triedVariable[i];
                    pairSets[triedVariable[i]] = triedSet[i];
                }
            }
            learned++;
            return rules.learn(learned - 1, itsVariables, pairSets);
        }

        /** Pairs are bits of the tries that are open. */
        private void startTrial(int pairs) {
            trial.start(past, past.all(), rules.all());
            for (int i = 0; i < open && !trial.failed; i++) {
                if ((pairs >> i & 1) == 1) {
                    trial.narrow(triedVariable[i], triedSet[i], DECIDED);
                }
            }
        }

        private boolean isSolution(int[] values) {
            for (int v = 0; v < VARIABLES; v++) {
                if (solution[v] != values[v]) {
                    return false;
                }
            }
            return true;
        }

        private int digits() {
            int all = 0;
            for (int v = 0; v < VARIABLES; v++) {
                all = all * 10 + solution[v];
            }
            return all;
        }
    }

    /** A row of numbers of a sort, or none. */
    private static final class Sheet {
        private final int[] items = new int[MOST_ITEMS];
        private int sort = MISSING;
        private int size;

        private void become(int newSort, int newSize) {
            sort = newSort;
            size = newSort == MISSING ? 0 : newSize;
            for (int i = 0; i < MOST_ITEMS; i++) {
                items[i] = 0;
            }
        }

        private boolean isMissing() {
            return sort == MISSING;
        }

        private boolean has(int i) {
            return i >= 0 && i < size;
        }

        private boolean hasRow(int i, int n) {
            return n >= 0 && n <= size && i >= 0 && i <= size - n;
        }

        private int cut(int v) {
            switch (sort) {
                case SHORTS: return (short) v;
                case BYTES: return (byte) v;
                default: return v;
            }
        }
    }
}
