import java.util.ArrayList;
import java.util.Collections;
import java.util.HashMap;
import java.util.List;
import java.util.Map;
import java.util.Set;
import java.util.TreeMap;
import java.util.TreeSet;

/** Asks the same of MutantTester and of a plain model on many texts, always the same ones. */
public final class ModelTests {
    private static final int PROGRAMS = 3000;
    private static final int WALKS = 300;
    private static final int SPOILT = 20000;

    private static int wrong = 0;
    private static int asked = 0;
    private static final int[] seen = new int[4];
    private static int tooMany = 0;
    private static int folded = 0;

    public static void main(String[] args) {
        Texts texts = new Texts(20261119L);
        for (int i = 0; i < PROGRAMS && wrong < 50; i++) {
            compareAll(texts.program(), texts);
        }
        for (int i = 0; i < WALKS && wrong < 50; i++) {
            walk(texts);
        }
        int good = 0;
        for (int i = 0; i < SPOILT && wrong < 50; i++) {
            good += compareCompile(texts.spoilt()) >= 0 ? 1 : 0;
        }
        System.out.println(asked + " answers, " + wrong + " wrong; outcomes " + seen[0] + " " + seen[1] + " " + seen[2] + " " + seen[3]
            + ", more than 120 mutants " + tooMany + ", mutants that come to another one " + folded + ", spoilt texts that are programs " + good);
        if (wrong != 0) {
            System.exit(1);
        }
    }

    private static void due(String text, String call, Object want, Object got) {
        asked++;
        if (!want.equals(got)) {
            wrong++;
            System.out.println(text + " " + call + " answered " + got + ", due is " + want);
        }
    }

    private static MutantTester typed(String text) {
        MutantTester t = new MutantTester();
        for (int i = 0; i < text.length(); i++) {
            due(text, "type", i + 1, t.type(text.charAt(i)));
        }
        return t;
    }

    /** How many mutants, -1 if it is no program, -2 if they are too many. */
    private static int compareCompile(String text) {
        int want;
        try {
            want = new Model(text).mutants.size();
            want = want > 120 ? -2 : want;
        } catch (NoProgram e) {
            want = -1;
        }
        int got;
        try {
            got = typed(text).compile();
        } catch (IllegalArgumentException e) {
            got = -1;
        } catch (IllegalStateException e) {
            got = -2;
        }
        due(text, "compile", want, got);
        return want;
    }

    private static MutantTester compiled(String text) {
        MutantTester t = typed(text);
        t.compile();
        return t;
    }

    /** Each part has an object of its own, for an object is used for 512 calls at most. */
    private static void compareAll(String text, Texts texts) {
        if (compareCompile(text) < 0) {
            tooMany++;
            return;
        }
        Model model = new Model(text);
        for (int what = 0; what < 4; what++) {
            MutantTester t = compiled(text);
            for (int m = 1; m <= model.mutants.size(); m++) {
                due(text, "mutant(" + m + ", " + what + ")", model.about(m, what), t.mutant(m, what));
            }
        }
        for (int m = 1; m <= model.mutants.size(); m++) {
            folded += model.about(m, 3) < m ? 1 : 0;
        }
        compareRuns(text, model, texts);
        compareMatrix(text, model, texts);
    }

    private static void compareRuns(String text, Model model, Texts texts) {
        MutantTester t = compiled(text);
        int fuel = 20;
        for (int m = 0; m <= model.mutants.size(); m++) {
            if (texts.below(4) == 0) {
                fuel = 1 + texts.below(50);
                due(text, "fuel", true, t.fuel(fuel));
            }
            int x = texts.input();
            int y = texts.input();
            Run run = new Run(model.tree(m), x, y, fuel);
            String call = "run(" + m + ", " + x + ", " + y + ") with fuel " + fuel;
            due(text, call, run.outcome, t.run(m, x, y));
            due(text, call + " value", run.value, t.value());
            due(text, call + " took", run.took, t.took());
            seen[run.outcome]++;
        }
    }

    private static void compareMatrix(String text, Model model, Texts texts) {
        int tests = texts.below(9);
        int fuel = 1 + texts.below(30);
        List<MutantTester> testers = new ArrayList<>();
        int[] xs = new int[tests];
        int[] ys = new int[tests];
        for (int i = 0; i < tests; i++) {
            xs[i] = texts.input();
            ys[i] = texts.input();
        }
        for (int i = 0; i < 5; i++) {
            MutantTester t = compiled(text);
            t.fuel(fuel);
            for (int k = 0; k < tests; k++) {
                due(text, "test", k, t.test(xs[k], ys[k]));
            }
            due(text, "matrix", model.runs(xs, ys, fuel), t.matrix());
            testers.add(t);
        }
        Set<Integer> killed = new TreeSet<>();
        for (int k = 0; k < tests; k++) {
            Run own = new Run(model.tree(0), xs[k], ys[k], fuel);
            for (int m = 1; m <= model.mutants.size(); m++) {
                MutantTester t = testers.get(k / 2);
                String with = m + ", " + k + ") of x " + xs[k] + " y " + ys[k] + " fuel " + fuel;
                // Folded programs do what they did before, so each mutant may be run itself.
                Run run = new Run(model.tree(m), xs[k], ys[k], fuel);
                boolean other = run.outcome != own.outcome || run.value != own.value;
                due(text, "killed(" + with, other, t.killed(m, k));
                due(text, "reached(" + with, own.reached.contains(model.about(m, 0)), t.reached(m, k));
                if (other) {
                    killed.add(model.about(m, 3));
                }
            }
        }
        due(text, "score(0)", model.classes().size(), testers.get(4).score(0));
        due(text, "score(1)", killed.size(), testers.get(4).score(1));
    }

    private interface Call {
        Object go();
    }

    private static Object answer(Call call) {
        try {
            return call.go();
        } catch (RuntimeException e) {
            return e.getClass().getSimpleName();
        }
    }

    private static void both(List<String> calls, String call, Call wanted, Call got) {
        calls.add(call);
        Object want = answer(wanted);
        Object is = answer(got);
        asked++;
        if (!want.equals(is)) {
            wrong++;
            System.out.println(calls + " answered " + is + ", due is " + want);
        }
    }

    /** All the calls that one object is used for, in any order. */
    private static void walk(Texts texts) {
        MutantTester t = new MutantTester();
        Mirror mirror = new Mirror();
        List<String> calls = new ArrayList<>();
        while (calls.size() < 440 && wrong < 50) {
            if (texts.below(30) == 0) {
                both(calls, "wipe", mirror::wipe, () -> {
                    t.wipe();
                    return 0;
                });
                for (char c : (texts.below(5) == 0 ? texts.spoilt() : texts.program()).toCharArray()) {
                    both(calls, "type " + c, () -> mirror.type(c), () -> t.type(c));
                }
                both(calls, "compile", mirror::compile, t::compile);
            } else {
                step(t, mirror, calls, texts);
            }
        }
    }

    private static void step(MutantTester t, Mirror mirror, List<String> calls, Texts texts) {
        int many = mirror.model == null ? 3 : mirror.model.mutants.size();
        int m = texts.below(many + 3) - 1;
        int test = texts.below(mirror.tests.size() + 1 + texts.below(2)) - texts.below(2);
        int what = texts.below(20) == 0 ? texts.below(8) - 2 : texts.below(4);
        int x = texts.input();
        int y = texts.input();
        int fuel = texts.below(54) - 1;
        char c = (char) (28 + texts.below(103));
        switch (texts.below(24)) {
            case 0 -> both(calls, "type " + c, () -> mirror.type(c), () -> t.type(c));
            case 1 -> both(calls, "compile", mirror::compile, t::compile);
            case 2, 3, 4 -> both(calls, "mutant " + m + " " + what, () -> mirror.mutant(m, what), () -> t.mutant(m, what));
            case 5, 6 -> both(calls, "test " + x + " " + y, () -> mirror.test(x, y), () -> t.test(x, y));
            case 7 -> both(calls, "fuel " + fuel, () -> mirror.fuel(fuel), () -> t.fuel(fuel));
            case 8, 9, 10 -> both(calls, "run " + m + " " + x + " " + y, () -> mirror.run(m, x, y), () -> t.run(m, x, y));
            case 11 -> both(calls, "value", () -> mirror.value, t::value);
            case 12 -> both(calls, "took", () -> mirror.took, t::took);
            case 13, 14, 15, 16 -> both(calls, "matrix", mirror::matrix, t::matrix);
            case 17, 18, 19 -> both(calls, "killed " + m + " " + test, () -> mirror.killed(m, test), () -> t.killed(m, test));
            case 20, 21 -> both(calls, "reached " + m + " " + test, () -> mirror.reached(m, test), () -> t.reached(m, test));
            default -> both(calls, "score " + what % 3, () -> mirror.score(what % 3), () -> t.score(what % 3));
        }
    }

    /** An object of the class as the document tells it. */
    private static final class Mirror {
        private String text = "";
        private Model model = null;
        private final List<int[]> tests = new ArrayList<>();
        private int fuel = 20;
        private int value = 0;
        private int took = 0;
        private List<Run> matrix = null;

        int wipe() {
            text = "";
            return 0;
        }

        int type(char c) {
            if (c < 32 || c > 126 || text.length() == 60) {
                return -1;
            }
            text += c;
            return text.length();
        }

        int compile() {
            Model next;
            try {
                next = new Model(text);
            } catch (NoProgram e) {
                throw new IllegalArgumentException();
            }
            need(next.mutants.size() <= 120, new IllegalStateException());
            model = next;
            tests.clear();
            matrix = null;
            value = 0;
            took = 0;
            return model.mutants.size();
        }

        private static void need(boolean holds, RuntimeException or) {
            if (!holds) {
                throw or;
            }
        }

        private void needMutant(int m, int least) {
            need(m >= least && m <= model.mutants.size(), new IndexOutOfBoundsException());
        }

        int mutant(int m, int what) {
            need(model != null, new IllegalStateException());
            needMutant(m, 1);
            need(what >= 0 && what <= 3, new IllegalArgumentException());
            return model.about(m, what);
        }

        int test(int x, int y) {
            need(model != null && tests.size() < 8, new IllegalStateException());
            tests.add(new int[] {x, y});
            matrix = null;
            return tests.size() - 1;
        }

        boolean fuel(int n) {
            if (n < 1 || n > 50) {
                return false;
            }
            fuel = n;
            matrix = null;
            return true;
        }

        int run(int m, int x, int y) {
            need(model != null, new IllegalStateException());
            needMutant(m, 0);
            Run run = new Run(model.tree(m), x, y, fuel);
            value = run.value;
            took = run.took;
            return run.outcome;
        }

        int matrix() {
            need(model != null, new IllegalStateException());
            matrix = new ArrayList<>();
            int runs = 0;
            for (int[] test : tests) {
                Run own = new Run(model.tree(0), test[0], test[1], fuel);
                matrix.add(own);
                for (int m : model.classes()) {
                    runs += own.reached.contains(model.about(m, 0)) ? 1 : 0;
                }
            }
            return runs;
        }

        private void needMatrix(int m, int test) {
            need(matrix != null, new IllegalStateException());
            needMutant(m, 1);
            need(test >= 0 && test < tests.size(), new IndexOutOfBoundsException());
        }

        boolean killed(int m, int test) {
            needMatrix(m, test);
            Run run = new Run(model.tree(m), tests.get(test)[0], tests.get(test)[1], fuel);
            return run.outcome != matrix.get(test).outcome || run.value != matrix.get(test).value;
        }

        boolean reached(int m, int test) {
            needMatrix(m, test);
            return matrix.get(test).reached.contains(model.about(m, 0));
        }

        int score(int what) {
            need(matrix != null, new IllegalStateException());
            need(what == 0 || what == 1, new IllegalArgumentException());
            int classes = 0;
            for (int m : model.classes()) {
                boolean counts = what == 0;
                for (int k = 0; k < tests.size(); k++) {
                    counts |= killed(m, k);
                }
                classes += counts ? 1 : 0;
            }
            return classes;
        }
    }

    private static final class NoProgram extends RuntimeException {
        private static final long serialVersionUID = 1L;
    }

    private record Node(char sort, int place, int number, List<Node> parts) {
        static Node of(char sort, int place, int number, Node... parts) {
            return new Node(sort, place, number, List.of(parts));
        }

        boolean isConstant() {
            return sort == 'k';
        }

        boolean isConstant(int n) {
            return sort == 'k' && number == n;
        }

        String written() {
            StringBuilder all = new StringBuilder("(").append(sort).append(number);
            for (Node part : parts) {
                all.append(part.written());
            }
            return all.append(')').toString();
        }
    }

    private record Mutant(int site, int kind, int instead) {
    }

    /** Reads by splitting at the last operator outside brackets. */
    private static final class Split {
        private final String text;
        private final int[] partner;

        Split(String text) {
            this.text = text;
            this.partner = new int[text.length()];
            List<Integer> open = new ArrayList<>();
            for (int i = 0; i < text.length(); i++) {
                char c = text.charAt(i);
                if ("([{".indexOf(c) >= 0) {
                    open.add(i);
                    need(open.size() <= 4);
                } else if (")]}".indexOf(c) >= 0) {
                    need(!open.isEmpty());
                    int from = open.remove(open.size() - 1);
                    need("([{".indexOf(text.charAt(from)) == ")]}".indexOf(c));
                    partner[from] = i;
                    partner[i] = from;
                }
            }
            need(open.isEmpty());
        }

        private static void need(boolean holds) {
            if (!holds) {
                throw new NoProgram();
            }
        }

        private List<Integer> outside(int from, int to, String signs) {
            List<Integer> all = new ArrayList<>();
            for (int i = from; i < to; i++) {
                if (signs.indexOf(text.charAt(i)) >= 0) {
                    all.add(i);
                }
                if ("([{".indexOf(text.charAt(i)) >= 0) {
                    i = partner[i];
                }
            }
            return all;
        }

        private int firstOutside(int from, int to, String sign) {
            List<Integer> all = outside(from, to, sign);
            need(!all.isEmpty());
            return all.get(0);
        }

        private boolean isWithin(int from, int to, char bracket) {
            return from < to && text.charAt(from) == bracket && partner[from] == to - 1;
        }

        Node expression(int from, int to) {
            for (String signs : new String[] {"+-", "*/%"}) {
                List<Integer> at = outside(from, to, signs);
                if (!at.isEmpty()) {
                    int last = at.get(at.size() - 1);
                    return Node.of(text.charAt(last), last, 0, expression(from, last), expression(last + 1, to));
                }
            }
            if (isWithin(from, to, '(')) {
                return expression(from + 1, to - 1);
            }
            String factor = text.substring(from, to);
            if (factor.matches("0|[1-9][0-9]?")) {
                return Node.of('k', from, Integer.parseInt(factor));
            }
            need(factor.matches("[a-fxy]"));
            return Node.of('v', from, factor.charAt(0));
        }

        Node condition(int from, int to) {
            for (String sign : new String[] {"|", "&"}) {
                List<Integer> at = outside(from, to, sign);
                if (!at.isEmpty()) {
                    int last = at.get(at.size() - 1);
                    return Node.of(text.charAt(last), last, 0, condition(from, last), condition(last + 1, to));
                }
            }
            if (isWithin(from, to, '[')) {
                return condition(from + 1, to - 1);
            }
            List<Integer> at = outside(from, to, "<>=#");
            need(at.size() == 1);
            int place = at.get(0);
            return Node.of(text.charAt(place), place, 0, expression(from, place), expression(place + 1, to));
        }

        Node row(int from, int to) {
            List<Node> statements = new ArrayList<>();
            int at = from;
            while (at < to) {
                char c = text.charAt(at);
                if (c == '?' || c == '@') {
                    int open = firstOutside(at, to, "{");
                    int close = partner[open];
                    Node condition = condition(at + 1, open);
                    Node body = row(open + 1, close);
                    if (c == '@') {
                        statements.add(Node.of(c, at, 0, condition, body));
                    } else if (close + 1 < to && text.charAt(close + 1) == '{') {
                        int last = partner[close + 1];
                        statements.add(Node.of(c, at, 0, condition, body, row(close + 2, last)));
                        close = last;
                    } else {
                        statements.add(Node.of(c, at, 0, condition, body, Node.of('r', -1, 0)));
                    }
                    at = close + 1;
                } else {
                    int end = firstOutside(at, to, ";");
                    if (c == '!') {
                        statements.add(Node.of(c, at, 0, condition(at + 1, end)));
                    } else if (c == '^') {
                        statements.add(Node.of(c, at, 0, expression(at + 1, end)));
                    } else {
                        need(c >= 'a' && c <= 'f' && text.charAt(at + 1) == '=');
                        statements.add(Node.of('s', at, c, expression(at + 2, end)));
                    }
                    at = end + 1;
                }
            }
            return new Node('r', -1, 0, statements);
        }
    }

    private static final class Model {
        final List<Mutant> mutants = new ArrayList<>();
        private final Node program;
        private final List<Integer> classOf = new ArrayList<>();

        Model(String text) {
            program = new Split(text).row(0, text.length());
            Map<Integer, Node> sites = new TreeMap<>();
            collect(program, sites);
            sites.forEach(this::addSite);
            Map<String, Integer> least = new HashMap<>();
            for (int m = 0; m <= mutants.size(); m++) {
                classOf.add(least.computeIfAbsent(Fold.fold(tree(m)).written(), key -> classOf.size()));
            }
        }

        private static void collect(Node node, Map<Integer, Node> sites) {
            if (node.sort != 'r' && node.sort != 'v') {
                sites.put(node.place, node);
            }
            for (Node part : node.parts) {
                collect(part, sites);
            }
        }

        private void addSite(int place, Node node) {
            String[] operators = {"+-*/%", "<>=#", "&|"};
            for (int kind = 0; kind < 3; kind++) {
                if (operators[kind].indexOf(node.sort) >= 0) {
                    for (char c : operators[kind].toCharArray()) {
                        if (c != node.sort) {
                            mutants.add(new Mutant(place, kind, c));
                        }
                    }
                }
            }
            if (node.sort == 'k') {
                mutants.add(new Mutant(place, 3, node.number + 1));
                mutants.add(new Mutant(place, 3, node.number - 1));
            }
            if ("s?@!^".indexOf(node.sort) >= 0) {
                mutants.add(new Mutant(place, 4, 0));
            }
        }

        Node tree(int m) {
            return m == 0 ? program : changed(program, mutants.get(m - 1));
        }

        private static Node changed(Node node, Mutant by) {
            List<Node> parts = new ArrayList<>();
            for (Node part : node.parts) {
                boolean leftOut = node.sort == 'r' && by.kind == 4 && part.place == by.site;
                if (!leftOut) {
                    parts.add(changed(part, by));
                }
            }
            boolean here = node.place == by.site;
            char sort = here && by.kind <= 2 ? (char) by.instead : node.sort;
            int number = here && by.kind == 3 ? by.instead : node.number;
            return new Node(sort, node.place, number, parts);
        }

        int about(int m, int what) {
            Mutant mutant = mutants.get(m - 1);
            return what == 0 ? mutant.site : what == 1 ? mutant.kind : what == 2 ? mutant.instead : classOf.get(m);
        }

        Set<Integer> classes() {
            Set<Integer> all = new TreeSet<>(classOf);
            all.remove(0);
            return all;
        }

        int runs(int[] xs, int[] ys, int fuel) {
            int runs = 0;
            for (int k = 0; k < xs.length; k++) {
                Run own = new Run(program, xs[k], ys[k], fuel);
                for (int m : classes()) {
                    runs += own.reached.contains(about(m, 0)) ? 1 : 0;
                }
            }
            return runs;
        }
    }

    private static final class Fold {
        private static final Node TRUE = Node.of('T', -1, 0);
        private static final Node FALSE = Node.of('F', -1, 0);

        static Node fold(Node node) {
            if (node.sort == 'r') {
                return row(node);
            }
            List<Node> parts = new ArrayList<>();
            for (Node part : node.parts) {
                parts.add(fold(part));
            }
            Node inside = new Node(node.sort, -1, node.number, parts);
            if ("+-*/%".indexOf(node.sort) >= 0) {
                return arithmetic(inside, parts.get(0), parts.get(1));
            }
            if ("<>=#".indexOf(node.sort) >= 0) {
                Node l = parts.get(0);
                Node r = parts.get(1);
                return !l.isConstant() || !r.isConstant() ? inside : Run.compares(node.sort, l.number, r.number) ? TRUE : FALSE;
            }
            if (node.sort == '&') {
                Node l = parts.get(0);
                return l == TRUE ? parts.get(1) : l == FALSE ? FALSE : parts.get(1) == TRUE ? l : inside;
            }
            if (node.sort == '|') {
                Node l = parts.get(0);
                return l == FALSE ? parts.get(1) : l == TRUE ? TRUE : parts.get(1) == FALSE ? l : inside;
            }
            return inside;
        }

        private static Node arithmetic(Node inside, Node l, Node r) {
            char c = inside.sort;
            if (l.isConstant() && r.isConstant() && !("/%".indexOf(c) >= 0 && r.number == 0)) {
                int value = c == '+' ? l.number + r.number : c == '-' ? l.number - r.number : c == '*' ? l.number * r.number
                    : c == '/' ? l.number / r.number : l.number % r.number;
                return Node.of('k', -1, value);
            }
            boolean left = (c == '+' || c == '-') && r.isConstant(0) || (c == '*' || c == '/') && r.isConstant(1);
            boolean right = c == '+' && l.isConstant(0) || c == '*' && l.isConstant(1);
            return left ? l : right ? r : inside;
        }

        private static Node row(Node row) {
            List<Node> all = new ArrayList<>();
            for (Node statement : row.parts) {
                Node s = fold(statement);
                Node c = s.parts.get(0);
                if (s.sort == '?' && (c == TRUE || c == FALSE)) {
                    all.addAll(s.parts.get(c == TRUE ? 1 : 2).parts);
                } else if (!(s.sort == '@' && c == FALSE || s.sort == '!' && c == TRUE || s.sort == 's' && c.sort == 'v' && c.number == s.number)) {
                    all.add(s);
                }
            }
            for (int i = 0; i < all.size(); i++) {
                if (all.get(i).sort == '^') {
                    all = all.subList(0, i + 1);
                }
            }
            return new Node('r', -1, 0, all);
        }
    }

    private static final class Stop extends RuntimeException {
        private static final long serialVersionUID = 1L;
        final int outcome;
        final int value;

        Stop(int outcome, int value) {
            super(null, null, false, false);
            this.outcome = outcome;
            this.value = value;
        }
    }

    private static final class Run {
        final Set<Integer> reached = new TreeSet<>();
        int outcome = 0;
        int value = 0;
        int took = 0;
        private final int fuel;
        private final Map<Integer, Integer> variables = new HashMap<>();

        Run(Node program, int x, int y, int fuel) {
            this.fuel = fuel;
            variables.put((int) 'x', x);
            variables.put((int) 'y', y);
            try {
                row(program);
            } catch (Stop stop) {
                outcome = stop.outcome;
                value = stop.value;
            }
        }

        private void row(Node row) {
            for (Node s : row.parts) {
                reached.add(s.place);
                Node first = s.parts.get(0);
                if (s.sort == 's') {
                    variables.put(s.number, number(first));
                } else if (s.sort == '^') {
                    throw new Stop(0, number(first));
                } else if (s.sort == '!') {
                    if (!holds(first)) {
                        throw new Stop(2, 0);
                    }
                } else if (s.sort == '?') {
                    row(s.parts.get(holds(first) ? 1 : 2));
                } else {
                    while (holds(first)) {
                        if (took == fuel) {
                            throw new Stop(3, 0);
                        }
                        took++;
                        row(s.parts.get(1));
                    }
                }
            }
        }

        private boolean holds(Node c) {
            if (c.sort == '&' || c.sort == '|') {
                boolean left = holds(c.parts.get(0));
                reached.add(c.place);
                return c.sort == '&' ? left && holds(c.parts.get(1)) : left || holds(c.parts.get(1));
            }
            int left = number(c.parts.get(0));
            int right = number(c.parts.get(1));
            reached.add(c.place);
            return compares(c.sort, left, right);
        }

        static boolean compares(char c, int left, int right) {
            return c == '<' ? left < right : c == '>' ? left > right : c == '=' ? left == right : left != right;
        }

        private int number(Node e) {
            if (e.sort == 'v') {
                return variables.getOrDefault(e.number, 0);
            }
            if (e.sort == 'k') {
                reached.add(e.place);
                return e.number;
            }
            int left = number(e.parts.get(0));
            int right = number(e.parts.get(1));
            reached.add(e.place);
            try {
                return e.sort == '+' ? left + right : e.sort == '-' ? left - right : e.sort == '*' ? left * right
                    : e.sort == '/' ? left / right : left % right;
            } catch (ArithmeticException trap) {
                throw new Stop(1, 0);
            }
        }
    }

    /** Texts from a row of numbers that is always the same. */
    private static final class Texts {
        private long state;
        private int budget = 0;

        Texts(long seed) {
            state = seed;
        }

        int below(int n) {
            state = state * 6364136223846793005L + 1442695040888963407L;
            return (int) ((state >>> 33) % n);
        }

        int input() {
            int[] some = {0, 1, -1, 2, 3, 5, 9, 10, -7, 100, Integer.MAX_VALUE, Integer.MIN_VALUE, 65536};
            return below(4) == 0 ? some[below(some.length)] : below(7) - 2;
        }

        /** Of operators and constants alone: some have more than 120 mutants. */
        private String dense() {
            StringBuilder all = new StringBuilder(below(2) == 0 ? "^" : "a=x;^").append(factor(4));
            int most = 42 + below(17);
            while (all.length() < most) {
                all.append("+-*/%".charAt(below(5))).append("xya0123".charAt(below(7)));
            }
            return all.append(';').toString();
        }

        String program() {
            if (below(30) == 0) {
                return dense();
            }
            int most = below(3) == 0 ? 60 : 10 + below(51);
            String best = "";
            for (int i = 0; i < 12; i++) {
                budget = most;
                StringBuilder all = new StringBuilder();
                while (budget > 3) {
                    String one = statement(0);
                    budget -= one.length();
                    all.append(one);
                    if (below(8) == 0) {
                        break;
                    }
                }
                if (all.length() <= most && all.length() > best.length()) {
                    best = all.toString();
                }
            }
            return best;
        }

        private String statement(int depth) {
            int pick = below(depth < 3 ? 11 : 7);
            if (pick < 4) {
                char v = "abcdef".charAt(below(below(2) + 2));
                return v + "=" + (below(6) == 0 ? v + expressionTail(depth) : expression(depth)) + ";";
            }
            if (pick == 4) {
                return "!" + condition(depth) + ";";
            }
            if (pick < 7) {
                return below(3) == 0 ? "^" + expression(depth) + ";" : "a=a+1;";
            }
            if (pick < 10) {
                return "?" + condition(depth) + "{" + row(depth + 1) + "}" + (below(2) == 0 ? "{" + row(depth + 1) + "}" : "");
            }
            return "@" + condition(depth) + "{" + row(depth + 1) + "}";
        }

        private String expressionTail(int depth) {
            String[] tails = {"+0", "*1", "-0", "/1", "+(1-1)", "", "%1", "-1"};
            return tails[below(tails.length)].replace("(1-1)", depth < 4 ? "(1-1)" : "0");
        }

        private String row(int depth) {
            StringBuilder all = new StringBuilder();
            for (int n = below(3); n > 0; n--) {
                all.append(statement(depth));
            }
            return all.toString();
        }

        private String condition(int depth) {
            StringBuilder all = new StringBuilder(atom(depth));
            while (below(3) == 0) {
                all.append(below(2) == 0 ? '&' : '|').append(atom(depth));
            }
            return all.toString();
        }

        private String atom(int depth) {
            if (depth < 4 && below(6) == 0) {
                return "[" + condition(depth + 1) + "]";
            }
            return expression(depth) + "<>=#".charAt(below(4)) + expression(depth);
        }

        private String expression(int depth) {
            StringBuilder all = new StringBuilder(factor(depth));
            while (below(3) == 0) {
                all.append("+-*/%".charAt(below(5))).append(factor(depth));
            }
            return all.toString();
        }

        private String factor(int depth) {
            int pick = below(10);
            if (pick < 4) {
                return Integer.toString(below(8) == 0 ? below(100) : below(4));
            }
            if (pick == 9 && depth < 4) {
                return "(" + expression(depth + 1) + ")";
            }
            return "abxyxaabcdef".substring(pick == 8 ? 6 : 0, pick == 8 ? 12 : 6).substring(below(6)).substring(0, 1);
        }

        /** A program with a few characters changed, left out or put in, or some characters at all. */
        String spoilt() {
            String signs = "abcdefxyg01239+-*/%<>=#&|?@!^;(){}[] ~,";
            if (below(10) == 0) {
                List<Character> few = new ArrayList<>(List.of('a', '=', '1', ';', '^', 'x'));
                Collections.rotate(few, below(6));
                return few.toString().replaceAll("[, \\[\\]]", "");
            }
            StringBuilder text = new StringBuilder(program());
            for (int n = 1 + below(2); n > 0; n--) {
                int at = below(text.length() + 1);
                char sign = signs.charAt(below(signs.length()));
                int how = below(4);
                if (how == 0 && text.length() < 60) {
                    text.insert(at, sign);
                } else if (how == 1 && at < text.length()) {
                    text.deleteCharAt(at);
                } else if (how == 2 && at + 1 < text.length()) {
                    char first = text.charAt(at);
                    text.setCharAt(at, text.charAt(at + 1));
                    text.setCharAt(at + 1, first);
                } else if (at < text.length()) {
                    text.setCharAt(at, sign);
                }
            }
            return text.toString();
        }
    }
}
