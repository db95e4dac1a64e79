import java.util.Arrays;

/** Tells which little changes of a small program its tests would notice; ../shared/DOC.md has the promises. */
public final class MutantTester {
    private static final int MOST_TEXT = 60;
    private static final int MOST_BRACKETS = 4;
    private static final int MOST_MUTANTS = 120;
    private static final int MOST_TESTS = 8;
    private static final int MOST_FUEL = 50;
    private static final int FIRST_FUEL = 20;
    private static final int REFUSED = -1;

    private static final String VARIABLES = "abcdefxy";
    private static final int ASSIGNABLE = 6;
    private static final int SLOT_OF_X = 6;
    private static final int SLOT_OF_Y = 7;
    private static final String ARITHMETIC = "+-*/%";
    private static final String COMPARISONS = "<>=#";
    private static final String LOGIC = "&|";

    /** The place that the program itself changes. */
    private static final int NOWHERE = -1;

    private final char[] text = new char[MOST_TEXT];
    private int length = 0;
    private final Reader reader = new Reader();
    private boolean compiled = false;
    private Code code = new Code();
    // A text that is refused must leave what is compiled as it was, so it is read into another code.
    private Code spare = new Code();
    private final Mutants mutants = new Mutants();
    private final Folder folder = new Folder();
    private final Machine machine = new Machine();
    private final Matrix results = new Matrix();
    private int fuelOfRuns = FIRST_FUEL;
    private int latestValue = 0;
    private int latestTook = 0;

    public MutantTester() {
    }

    public int type(char c) {
        if (c < 32 || c > 126 || length == MOST_TEXT) {
            return REFUSED;
        }
        text[length] = c;
        length++;
        return length;
    }

    public void wipe() {
        length = 0;
    }

    public int compile() throws IllegalArgumentException, IllegalStateException {
        reader.read(text, length, spare);
        if (mutantsOf(spare) > MOST_MUTANTS) {
            throw new IllegalStateException("more than 120 mutants");
        }
        Code old = code;
        code = spare;
        spare = old;
        compiled = true;
        mutants.list(code);
        folder.findClasses(code, mutants);
        results.forgetTests();
        latestValue = 0;
        latestTook = 0;
        return mutants.count;
    }

    public int mutant(int m, int what)
            throws IllegalStateException, IndexOutOfBoundsException, IllegalArgumentException {
        needCompiled();
        needMutant(m, 1);
        switch (what) {
            case 0:
                return mutants.site[m];
            case 1:
                return mutants.kind[m];
            case 2:
                return mutants.instead[m];
            case 3:
                return mutants.classOf[m];
            default:
                throw new IllegalArgumentException("no such what");
        }
    }

    public int test(int x, int y) throws IllegalStateException {
        needCompiled();
        if (results.tests == MOST_TESTS) {
            throw new IllegalStateException("there are eight tests");
        }
        return results.addTest(x, y);
    }

    public boolean fuel(int n) {
        if (n < 1 || n > MOST_FUEL) {
            return false;
        }
        fuelOfRuns = n;
        results.made = false;
        return true;
    }

    public int run(int m, int x, int y) throws IllegalStateException, IndexOutOfBoundsException {
        needCompiled();
        needMutant(m, 0);
        int outcome = machine.execute(code, mutants.site[m], mutants.instead[m], x, y, fuelOfRuns);
        latestValue = machine.result;
        latestTook = machine.burnt;
        return outcome;
    }

    public int value() {
        return latestValue;
    }

    public int took() {
        return latestTook;
    }

    public int matrix() throws IllegalStateException {
        needCompiled();
        return results.make(code, mutants, machine, fuelOfRuns);
    }

    public boolean killed(int m, int test) throws IllegalStateException, IndexOutOfBoundsException {
        needMatrix();
        needMutant(m, 1);
        needTest(test);
        return (results.killers[mutants.classOf[m]] >> test & 1) == 1;
    }

    public boolean reached(int m, int test) throws IllegalStateException, IndexOutOfBoundsException {
        needMatrix();
        needMutant(m, 1);
        needTest(test);
        return holds(results.sites[test], mutants.site[m]);
    }

    public int score(int what) throws IllegalStateException, IllegalArgumentException {
        needMatrix();
        if (what != 0 && what != 1) {
            throw new IllegalArgumentException("no such what");
        }
        int classes = 0;
        for (int m = 1; m <= mutants.count; m++) {
            if (mutants.isNamesake(m) && (what == 0 || results.killers[m] != 0)) {
                classes++;
            }
        }
        return classes;
    }

    private void needCompiled() {
        if (!compiled) {
            throw new IllegalStateException("nothing is compiled");
        }
    }

    private void needMatrix() {
        if (!results.made) {
            throw new IllegalStateException("there is no matrix");
        }
    }

    private void needMutant(int m, int first) {
        if (m < first || m > mutants.count) {
            throw new IndexOutOfBoundsException("no such mutant");
        }
    }

    private void needTest(int test) {
        if (test < 0 || test >= results.tests) {
            throw new IndexOutOfBoundsException("no such test");
        }
    }

    private static boolean holds(long places, int place) {
        return (places >>> place & 1L) == 1L;
    }

    private static boolean traps(int operator, int right) {
        return (operator == '/' || operator == '%') && right == 0;
    }

    /** What does not trap only. */
    private static int arithmetic(int operator, int left, int right) {
        switch (operator) {
            case '+':
                return left + right;
            case '-':
                return left - right;
            case '*':
                return left * right;
            case '/':
                return right == 0 ? 0 : left / right;
            default:
                return right == 0 ? 0 : left % right;
        }
    }

    private static boolean comparison(int operator, int left, int right) {
        switch (operator) {
            case '<':
                return left < right;
            case '>':
                return left > right;
            case '=':
                return left == right;
            default:
                return left != right;
        }
    }

    private static int mutantsOf(Code code) {
        int many = 0;
        for (int i = 0; i < code.size; i++) {
            many += choicesOf(code.what[i]);
        }
        return many;
    }

    /** How many mutants the site has that a piece of code stands for. */
    private static int choicesOf(int what) {
        switch (what) {
            case Code.APPLY:
                return ARITHMETIC.length() - 1;
            case Code.COMPARE:
                return COMPARISONS.length() - 1;
            case Code.DECIDE:
                return LOGIC.length() - 1;
            case Code.CONSTANT:
                return 2;
            case Code.BEGIN:
                return 1;
            default:
                return 0;
        }
    }

    /**
     * The program and all its mutants in one: operands stand before what is done with them. Machine runs it and
     * Folder folds it, each told the one place that is changed and what stands there instead.
     */
    private static final class Code {
        /** At most 5 pieces come of 4 characters (&x<x), so 60 characters make no more than 75. */
        static final int MOST = 80;

        // The first five are the sites, and their numbers the kinds of mutants.
        static final int APPLY = 0;
        static final int COMPARE = 1;
        static final int DECIDE = 2;
        static final int CONSTANT = 3;
        static final int BEGIN = 4;
        static final int LOAD = 5;
        static final int JOIN = 6;
        static final int STORE = 7;
        static final int CHECK = 8;
        static final int RETURN = 9;
        static final int THEN = 10;
        static final int ELSE = 11;
        static final int END_IF = 12;
        static final int DO = 13;
        static final int AGAIN = 14;

        final int[] what = new int[MOST];
        final int[] place = new int[MOST];
        /** The operator, the constant or the variable's slot. */
        final int[] number = new int[MOST];
        final int[] jump = new int[MOST];
        int size = 0;

        int add(int kind, int where, int operand) {
            if (size == MOST) {
                return MOST - 1;
            }
            what[size] = kind;
            place[size] = where;
            number[size] = operand;
            jump[size] = 0;
            size++;
            return size - 1;
        }

        void jumpHere(int from) {
            jump[from] = size;
        }

        int numberAt(int i, int changed, int instead) {
            return place[i] == changed ? instead : number[i];
        }
    }

    /** Reads the text from left to right and puts its code behind it; what is no program is thrown out. */
    private static final class Reader {
        private static final int NOTHING = -1;

        private char[] text = new char[0];
        private int length = 0;
        private int at = 0;
        private Code code = new Code();

        void read(char[] from, int many, Code into) {
            text = from;
            length = many;
            at = 0;
            code = into;
            code.size = 0;
            row(0);
            if (at < length) {
                refuse();
            }
        }

        private void refuse() {
            throw new IllegalArgumentException("no program");
        }

        private int next() {
            return at < length && at < text.length ? text[at] : NOTHING;
        }

        private boolean nextIsOneOf(String signs) {
            int c = next();
            return c != NOTHING && signs.indexOf((char) c) >= 0;
        }

        private void take(char c) {
            if (next() != c) {
                refuse();
            }
            at++;
        }

        /** Takes a bracket that stands in so many others, and answers how many there are now. */
        private int open(char bracket, int depth) {
            if (depth >= MOST_BRACKETS) {
                refuse();
            }
            take(bracket);
            return depth + 1;
        }

        private void row(int depth) {
            for (int n = 0; n < MOST_TEXT && at < length && next() != '}'; n++) {
                statement(depth);
            }
        }

        private void statement(int depth) {
            int begin = code.add(Code.BEGIN, at, 0);
            switch (next()) {
                case '?':
                    branch(depth);
                    break;
                case '@':
                    loop(depth);
                    break;
                case '!':
                    at++;
                    condition(depth);
                    endPlain(Code.CHECK, 0);
                    break;
                case '^':
                    at++;
                    expression(depth);
                    endPlain(Code.RETURN, 0);
                    break;
                default:
                    assignment(depth);
                    break;
            }
            code.jumpHere(begin);
        }

        private void endPlain(int kind, int operand) {
            take(';');
            code.add(kind, at, operand);
        }

        private void assignment(int depth) {
            int slot = slot();
            if (slot >= ASSIGNABLE) {
                refuse();
            }
            take('=');
            expression(depth);
            endPlain(Code.STORE, slot);
        }

        private void branch(int depth) {
            at++;
            condition(depth);
            int then = code.add(Code.THEN, at, 0);
            block(depth);
            int otherwise = code.add(Code.ELSE, at, 0);
            code.jumpHere(then);
            if (next() == '{') {
                block(depth);
            }
            code.add(Code.END_IF, at, 0);
            code.jumpHere(otherwise);
        }

        private void loop(int depth) {
            at++;
            int start = code.size;
            condition(depth);
            int body = code.add(Code.DO, at, 0);
            block(depth);
            int again = code.add(Code.AGAIN, at, 0);
            code.jump[again] = start;
            code.jumpHere(body);
        }

        private void block(int depth) {
            int inside = open('{', depth);
            row(inside);
            take('}');
        }

        private void condition(int depth) {
            part(depth);
            for (int n = 0; n < MOST_TEXT && next() == '|'; n++) {
                int decide = decide();
                part(depth);
                join(decide);
            }
        }

        private void part(int depth) {
            atom(depth);
            for (int n = 0; n < MOST_TEXT && next() == '&'; n++) {
                int decide = decide();
                atom(depth);
                join(decide);
            }
        }

        private int decide() {
            int decide = code.add(Code.DECIDE, at, next());
            at++;
            return decide;
        }

        private void join(int decide) {
            code.add(Code.JOIN, code.place[decide], code.number[decide]);
            code.jumpHere(decide);
        }

        private void atom(int depth) {
            if (next() == '[') {
                int inside = open('[', depth);
                condition(inside);
                take(']');
                return;
            }
            expression(depth);
            if (!nextIsOneOf(COMPARISONS)) {
                refuse();
            }
            int place = at;
            int operator = next();
            at++;
            expression(depth);
            code.add(Code.COMPARE, place, operator);
        }

        private void expression(int depth) {
            term(depth);
            for (int n = 0; n < MOST_TEXT && nextIsOneOf("+-"); n++) {
                int place = at;
                int operator = next();
                at++;
                term(depth);
                code.add(Code.APPLY, place, operator);
            }
        }

        private void term(int depth) {
            factor(depth);
            for (int n = 0; n < MOST_TEXT && nextIsOneOf("*/%"); n++) {
                int place = at;
                int operator = next();
                at++;
                factor(depth);
                code.add(Code.APPLY, place, operator);
            }
        }

        private void factor(int depth) {
            if (next() == '(') {
                int inside = open('(', depth);
                expression(inside);
                take(')');
            } else if (nextIsDigit()) {
                constant();
            } else {
                int place = at;
                code.add(Code.LOAD, place, slot());
            }
        }

        private boolean nextIsDigit() {
            return next() >= '0' && next() <= '9';
        }

        private void constant() {
            int place = at;
            int constant = next() - '0';
            at++;
            if (constant != 0 && nextIsDigit()) {
                constant = constant * 10 + next() - '0';
                at++;
            }
            code.add(Code.CONSTANT, place, constant);
        }

        private int slot() {
            if (!nextIsOneOf(VARIABLES)) {
                refuse();
            }
            int slot = VARIABLES.indexOf((char) next());
            at++;
            return slot;
        }
    }

    /** What each mutant changes; number 0 is the program itself. */
    private static final class Mutants {
        final int[] site = new int[MOST_MUTANTS + 1];
        final int[] kind = new int[MOST_MUTANTS + 1];
        final int[] instead = new int[MOST_MUTANTS + 1];
        final int[] classOf = new int[MOST_MUTANTS + 1];
        int count = 0;
        private final int[] codeAt = new int[MOST_TEXT];

        void list(Code code) {
            site[0] = NOWHERE;
            count = 0;
            sortSites(code);
            for (int place = 0; place < MOST_TEXT; place++) {
                if (codeAt[place] != NOWHERE) {
                    listSite(place, code.what[codeAt[place]], code.number[codeAt[place]]);
                }
            }
        }

        /** The code of an operator stands behind that of its operands, but sites go as the text does. */
        private void sortSites(Code code) {
            Arrays.fill(codeAt, NOWHERE);
            for (int i = 0; i < code.size; i++) {
                if (choicesOf(code.what[i]) > 0) {
                    codeAt[code.place[i]] = i;
                }
            }
        }

        private void listSite(int place, int what, int number) {
            switch (what) {
                case Code.APPLY:
                    listOthers(place, what, ARITHMETIC, number);
                    break;
                case Code.COMPARE:
                    listOthers(place, what, COMPARISONS, number);
                    break;
                case Code.DECIDE:
                    listOthers(place, what, LOGIC, number);
                    break;
                case Code.CONSTANT:
                    add(place, what, number + 1);
                    add(place, what, number - 1);
                    break;
                default:
                    add(place, what, 0);
                    break;
            }
        }

        private void listOthers(int place, int what, String operators, int operator) {
            for (int i = 0; i < operators.length(); i++) {
                if (operators.charAt(i) != operator) {
                    add(place, what, operators.charAt(i));
                }
            }
        }

        private void add(int place, int what, int other) {
            if (count < MOST_MUTANTS) {
                count++;
                site[count] = place;
                kind[count] = what;
                instead[count] = other;
            }
        }

        /** Whether its class, not that of the program itself, is named by the mutant. */
        boolean isNamesake(int m) {
            return m != 0 && classOf[m] == m;
        }
    }

    /** Runs the code; the register is the place that is changed, with what stands there instead. */
    private static final class Machine {
        static final int RETURNED = 0;
        static final int TRAPPED = 1;
        static final int FAILED = 2;
        static final int TIRED = 3;
        private static final int GOING = -1;
        /** Each way back takes fuel, so no run has more steps. */
        private static final int MOST_STEPS = (MOST_FUEL + 1) * Code.MOST;
        private static final int MOST_OPERANDS = 32;

        int result = 0;
        int burnt = 0;
        /** A bit for each place of the text. */
        long sites = 0;
        private final int[] stack = new int[MOST_OPERANDS];
        private final int[] slots = new int[SLOT_OF_Y + 1];
        private int height = 0;
        private int at = 0;
        private int outcome = RETURNED;
        private int tank = 0;
        private int changed = NOWHERE;
        private int instead = 0;
        private Code code = new Code();

        int execute(Code program, int place, int other, int x, int y, int most) {
            code = program;
            changed = place;
            instead = other;
            tank = most;
            Arrays.fill(slots, 0);
            slots[SLOT_OF_X] = x;
            slots[SLOT_OF_Y] = y;
            height = 0;
            at = 0;
            result = 0;
            burnt = 0;
            sites = 0;
            outcome = GOING;
            for (int steps = 0; steps < MOST_STEPS && outcome == GOING && at < code.size; steps++) {
                at++;
                step(at - 1);
            }
            return outcome == GOING ? RETURNED : outcome;
        }

        private void step(int here) {
            switch (code.what[here]) {
                case Code.APPLY:
                    apply(here);
                    break;
                case Code.COMPARE:
                    compare(here);
                    break;
                case Code.DECIDE:
                    decide(here);
                    break;
                case Code.CONSTANT:
                    reach(here);
                    push(code.numberAt(here, changed, instead));
                    break;
                case Code.BEGIN:
                    begin(here);
                    break;
                case Code.LOAD:
                    push(slots[code.number[here]]);
                    break;
                case Code.STORE:
                    slots[code.number[here]] = pop();
                    break;
                case Code.CHECK:
                    check();
                    break;
                case Code.RETURN:
                    result = pop();
                    outcome = RETURNED;
                    break;
                case Code.THEN:
                    at = pop() == 0 ? code.jump[here] : at;
                    break;
                case Code.DO:
                    enterBody(here);
                    break;
                case Code.ELSE:
                case Code.AGAIN:
                    at = code.jump[here];
                    break;
                default:
                    // JOIN and END_IF tell the folder alone where something ends.
                    break;
            }
        }

        private void reach(int here) {
            sites |= 1L << code.place[here];
        }

        private void push(int number) {
            if (height < MOST_OPERANDS) {
                stack[height] = number;
                height++;
            }
        }

        private int pop() {
            if (height == 0) {
                return 0;
            }
            height--;
            return stack[height];
        }

        private void apply(int here) {
            int right = pop();
            int left = pop();
            int operator = code.numberAt(here, changed, instead);
            reach(here);
            if (traps(operator, right)) {
                outcome = TRAPPED;
            } else {
                push(arithmetic(operator, left, right));
            }
        }

        private void compare(int here) {
            int right = pop();
            int left = pop();
            reach(here);
            push(comparison(code.numberAt(here, changed, instead), left, right) ? 1 : 0);
        }

        /** The left side stays as the answer where it decides. */
        private void decide(int here) {
            int left = pop();
            int deciding = code.numberAt(here, changed, instead) == '&' ? 0 : 1;
            reach(here);
            if (left == deciding) {
                push(left);
                at = code.jump[here];
            }
        }

        private void begin(int here) {
            reach(here);
            if (code.place[here] == changed) {
                at = code.jump[here];
            }
        }

        private void check() {
            if (pop() == 0) {
                outcome = FAILED;
            }
        }

        private void enterBody(int here) {
            if (pop() == 0) {
                at = code.jump[here];
            } else if (burnt == tank) {
                outcome = TIRED;
            } else {
                burnt++;
            }
        }
    }

    /** Folded trees, each kept once: equal trees have one number. */
    private static final class Trees {
        static final int NONE = 0;
        static final int EMPTY_ROW = 1;
        static final int TRUE = 2;
        static final int FALSE = 3;
        private static final int FIRST_MADE = 4;

        static final int CONSTANT = 1;
        static final int VARIABLE = 2;
        static final int OPERATION = 3;
        static final int ASSIGNMENT = 4;
        static final int CHECK = 5;
        static final int RETURN = 6;
        static final int IF = 7;
        static final int WHILE = 8;
        static final int ROW = 9;

        /** A fold makes a tree for a piece of code, and one for each of 15 statements in each of 5 rows. */
        private static final int MOST = (MOST_MUTANTS + 1) * (Code.MOST + 75);
        private static final int CHAINS = 1 << 12;

        final int[] kind = new int[MOST];
        final int[] first = new int[MOST];
        final int[] second = new int[MOST];
        final int[] third = new int[MOST];
        private final int[] older = new int[MOST];
        private final int[] newest = new int[CHAINS];
        private int count = FIRST_MADE;

        void clear() {
            Arrays.fill(newest, NONE);
            count = FIRST_MADE;
        }

        int of(int what, int a, int b, int c) {
            int chain = chainOf(what, a, b, c);
            int tree = newest[chain];
            for (int n = 0; n < count && tree != NONE; n++) {
                if (kind[tree] == what && first[tree] == a && second[tree] == b && third[tree] == c) {
                    return tree;
                }
                tree = older[tree];
            }
            return add(what, a, b, c, chain);
        }

        private static int chainOf(int what, int a, int b, int c) {
            int mixed = ((what * 31 + a) * 1009 + b) * 1013 + c;
            return (mixed ^ mixed >>> 12 ^ mixed >>> 24) & CHAINS - 1;
        }

        private int add(int what, int a, int b, int c, int chain) {
            if (count == MOST) {
                return NONE;
            }
            int tree = count;
            count++;
            kind[tree] = what;
            first[tree] = a;
            second[tree] = b;
            third[tree] = c;
            older[tree] = newest[chain];
            newest[chain] = tree;
            return tree;
        }

        int constant(int number) {
            return of(CONSTANT, number, 0, 0);
        }

        boolean isConstant(int tree) {
            return kind[tree] == CONSTANT;
        }

        boolean isNumber(int tree, int number) {
            return isConstant(tree) && first[tree] == number;
        }
    }

    /** Folds the code of a mutant: it stands from the inside to the outside already. */
    private static final class Folder {
        private static final int MOST_HELD = 128;

        private final Trees trees = new Trees();
        private final int[] roots = new int[MOST_MUTANTS + 1];
        /** Operands, the statements of the rows that are open, and where the rows around the innermost begin. */
        private final int[] stack = new int[MOST_HELD];
        private int height = 0;
        private int rowBegin = 0;

        void findClasses(Code code, Mutants mutants) {
            trees.clear();
            for (int m = 0; m <= mutants.count; m++) {
                roots[m] = fold(code, mutants.site[m], mutants.instead[m]);
                mutants.classOf[m] = firstLike(m);
            }
        }

        private int firstLike(int m) {
            int least = 0;
            while (least < m && roots[least] != roots[m]) {
                least++;
            }
            return least;
        }

        private int fold(Code code, int changed, int instead) {
            height = 0;
            rowBegin = 0;
            openRow();
            int leftOutTo = 0;
            for (int i = 0; i < code.size; i++) {
                if (code.what[i] == Code.BEGIN && code.place[i] == changed) {
                    leftOutTo = code.jump[i];
                }
                if (i >= leftOutTo) {
                    step(code.what[i], code.number[i], code.numberAt(i, changed, instead));
                }
            }
            closeRow();
            return pop();
        }

        private void step(int what, int number, int chosen) {
            switch (what) {
                case Code.APPLY:
                    apply(chosen);
                    break;
                case Code.COMPARE:
                    compare(chosen);
                    break;
                case Code.JOIN:
                    join(chosen);
                    break;
                case Code.CONSTANT:
                    push(trees.constant(chosen));
                    break;
                case Code.LOAD:
                    push(trees.of(Trees.VARIABLE, number, 0, 0));
                    break;
                case Code.STORE:
                    store(number);
                    break;
                case Code.CHECK:
                    check();
                    break;
                case Code.RETURN:
                    append(trees.of(Trees.RETURN, pop(), 0, 0));
                    break;
                case Code.THEN:
                case Code.DO:
                    openRow();
                    break;
                case Code.ELSE:
                    closeRow();
                    openRow();
                    break;
                case Code.END_IF:
                    closeRow();
                    endIf();
                    break;
                case Code.AGAIN:
                    closeRow();
                    endWhile();
                    break;
                default:
                    // BEGIN and DECIDE are for the machine alone.
                    break;
            }
        }

        private void push(int tree) {
            if (height < MOST_HELD) {
                stack[height] = tree;
                height++;
            }
        }

        private int pop() {
            if (height == 0) {
                return Trees.NONE;
            }
            height--;
            return stack[height];
        }

        private void openRow() {
            push(rowBegin);
            rowBegin = height;
        }

        private void closeRow() {
            int row = Trees.EMPTY_ROW;
            int begin = rowBegin;
            for (int i = height - 1; i >= begin; i--) {
                row = trees.of(Trees.ROW, stack[i], row, 0);
            }
            height = begin;
            rowBegin = pop();
            push(row);
        }

        /** What stands behind a ^ in the row is left out. */
        private void append(int statement) {
            boolean ended = height > rowBegin && trees.kind[stack[height - 1]] == Trees.RETURN;
            if (!ended) {
                push(statement);
            }
        }

        private void appendAll(int row) {
            int rest = row;
            for (int n = 0; n < MOST_TEXT && trees.kind[rest] == Trees.ROW; n++) {
                append(trees.first[rest]);
                rest = trees.second[rest];
            }
        }

        private void apply(int operator) {
            int right = pop();
            int left = pop();
            boolean constants = trees.isConstant(left) && trees.isConstant(right);
            if (constants && !traps(operator, trees.first[right])) {
                push(trees.constant(arithmetic(operator, trees.first[left], trees.first[right])));
            } else if (changesNothingOnTheRight(operator, right)) {
                push(left);
            } else if (changesNothingOnTheLeft(operator, left)) {
                push(right);
            } else {
                push(trees.of(Trees.OPERATION, operator, left, right));
            }
        }

        private boolean changesNothingOnTheRight(int operator, int right) {
            if (operator == '+' || operator == '-') {
                return trees.isNumber(right, 0);
            }
            return (operator == '*' || operator == '/') && trees.isNumber(right, 1);
        }

        private boolean changesNothingOnTheLeft(int operator, int left) {
            return operator == '+' && trees.isNumber(left, 0) || operator == '*' && trees.isNumber(left, 1);
        }

        private void compare(int operator) {
            int right = pop();
            int left = pop();
            if (trees.isConstant(left) && trees.isConstant(right)) {
                boolean holds = comparison(operator, trees.first[left], trees.first[right]);
                push(holds ? Trees.TRUE : Trees.FALSE);
            } else {
                push(trees.of(Trees.OPERATION, operator, left, right));
            }
        }

        /** C & FALSE and C | TRUE stay, for C may trap. */
        private void join(int operator) {
            int right = pop();
            int left = pop();
            int neutral = operator == '&' ? Trees.TRUE : Trees.FALSE;
            int deciding = operator == '&' ? Trees.FALSE : Trees.TRUE;
            if (left == neutral) {
                push(right);
            } else if (left == deciding || right == neutral) {
                push(left);
            } else {
                push(trees.of(Trees.OPERATION, operator, left, right));
            }
        }

        private void store(int slot) {
            int from = pop();
            boolean onItself = trees.kind[from] == Trees.VARIABLE && trees.first[from] == slot;
            if (!onItself) {
                append(trees.of(Trees.ASSIGNMENT, slot, from, 0));
            }
        }

        private void check() {
            int condition = pop();
            if (condition != Trees.TRUE) {
                append(trees.of(Trees.CHECK, condition, 0, 0));
            }
        }

        private void endIf() {
            int otherwise = pop();
            int then = pop();
            int condition = pop();
            if (condition == Trees.TRUE) {
                appendAll(then);
            } else if (condition == Trees.FALSE) {
                appendAll(otherwise);
            } else {
                append(trees.of(Trees.IF, condition, then, otherwise));
            }
        }

        private void endWhile() {
            int body = pop();
            int condition = pop();
            if (condition != Trees.FALSE) {
                append(trees.of(Trees.WHILE, condition, body, 0));
            }
        }
    }

    /** The tests, and what came of them. */
    private static final class Matrix {
        int tests = 0;
        boolean made = false;
        /** Of a test: the places that the program itself reached, a bit each. */
        final long[] sites = new long[MOST_TESTS];
        /** Of a mutant that names its class: the tests that kill it, a bit each. */
        final int[] killers = new int[MOST_MUTANTS + 1];
        private final int[] xs = new int[MOST_TESTS];
        private final int[] ys = new int[MOST_TESTS];

        void forgetTests() {
            tests = 0;
            made = false;
        }

        int addTest(int x, int y) {
            xs[tests] = x;
            ys[tests] = y;
            tests++;
            made = false;
            return tests - 1;
        }

        int make(Code code, Mutants mutants, Machine machine, int fuel) {
            Arrays.fill(killers, 0);
            int runs = 0;
            for (int t = 0; t < tests; t++) {
                runs += runMutants(t, code, mutants, machine, fuel);
            }
            made = true;
            return runs;
        }

        private int runMutants(int t, Code code, Mutants mutants, Machine machine, int fuel) {
            int due = machine.execute(code, NOWHERE, 0, xs[t], ys[t], fuel);
            int dueResult = machine.result;
            sites[t] = machine.sites;
            int runs = 0;
            for (int m = 1; m <= mutants.count; m++) {
                if (mutants.isNamesake(m) && holds(sites[t], mutants.site[m])) {
                    int got = machine.execute(code, mutants.site[m], mutants.instead[m], xs[t], ys[t], fuel);
                    if (got != due || machine.result != dueResult) {
                        killers[m] |= 1 << t;
                    }
                    runs++;
                }
            }
            return runs;
        }
    }
}
