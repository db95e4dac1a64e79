/** For each promise of the document the ordinary, the edges and what is refused; every answer worked out by hand. */
public final class PromiseTests {
    private static final Class<?> STATE = IllegalStateException.class;
    private static final Class<?> INDEX = IndexOutOfBoundsException.class;
    private static final Class<?> ARGUMENT = IllegalArgumentException.class;

    private interface Call {
        Object go();
    }

    private static int wrong = 0;
    private static int asked = 0;
    private static String part = "";

    public static void main(String[] args) {
        promise1();
        promise2();
        promise3();
        promise4Programs();
        promise4Limits();
        promise4LeavesAsItWas();
        promise5();
        promise5Classes();
        promise5Decided();
        promise6();
        promise7();
        promise8();
        promise8Order();
        promise9And10();
        promise11();
        promise12();
        promise13();
        promise14();
        System.out.println(asked + " answers, " + wrong + " wrong");
        if (wrong != 0) {
            System.exit(1);
        }
    }

    private static void due(Object want, String call, Call of) {
        asked++;
        Object got;
        try {
            got = of.go();
        } catch (RuntimeException e) {
            got = e.getClass();
        }
        if (!want.equals(got)) {
            wrong++;
            System.out.println(part + ": " + call + " answered " + got + ", due is " + want);
        }
    }

    private static void write(MutantTester t, String text) {
        t.wipe();
        for (int i = 0; i < text.length(); i++) {
            t.type(text.charAt(i));
        }
    }

    private static MutantTester of(String text) {
        MutantTester t = new MutantTester();
        write(t, text);
        t.compile();
        return t;
    }

    private static void dueRun(String text, int x, int y, int outcome, int value, int took) {
        MutantTester t = of(text);
        due(outcome, text + " run", () -> t.run(0, x, y));
        due(value, text + " value", t::value);
        due(took, text + " took", t::took);
    }

    private static void dueClass(int want, String text, int m) {
        due(want, text + " class of " + m, () -> of(text).mutant(m, 3));
    }

    private static void promise1() {
        part = "promise 1";
        MutantTester t = new MutantTester();
        due(0, "value", t::value);
        due(0, "took", t::took);
        due(STATE, "mutant", () -> t.mutant(1, 0));
        due(STATE, "test", () -> t.test(0, 0));
        due(STATE, "run", () -> t.run(0, 0, 0));
        due(STATE, "matrix", t::matrix);
        due(STATE, "killed", () -> t.killed(1, 0));
        due(STATE, "reached", () -> t.reached(1, 0));
        due(STATE, "score", () -> t.score(0));
        due(0, "compile of no text", t::compile);
        due(0, "the first test", () -> t.test(0, 0));
        due(1, "the first character", () -> t.type('@'));
        dueRun("@0<1{}", 0, 0, 3, 0, 20);
    }

    private static void promise2() {
        part = "promise 2";
        MutantTester t = new MutantTester();
        due(-1, "31", () -> t.type((char) 31));
        due(-1, "127", () -> t.type((char) 127));
        due(-1, "0", () -> t.type((char) 0));
        due(-1, "233", () -> t.type((char) 233));
        due(-1, "65535", () -> t.type((char) 65535));
        due(0, "what was refused is not there", t::compile);
        due(1, "32", () -> t.type((char) 32));
        due(2, "126", () -> t.type((char) 126));
        due(ARGUMENT, "there are no blanks", t::compile);
        t.wipe();
        for (int i = 1; i <= 60; i++) {
            int many = i;
            due(many, "character " + i, () -> t.type('x'));
        }
        due(-1, "character 61", () -> t.type('x'));
        due(-1, "again", () -> t.type('x'));
    }

    private static void promise3() {
        part = "promise 3";
        MutantTester t = of("^x+4;");
        t.test(1, 1);
        t.matrix();
        t.run(0, 5, 0);
        t.wipe();
        due(9, "value stays", t::value);
        due(7, "the matrix stays", () -> t.score(0));
        due(0, "what is compiled stays", () -> t.run(0, 6, 0));
        due(10, "value", t::value);
        due(1, "the first character again", () -> t.type('^'));
        t.wipe();
        due(0, "compile of no text", t::compile);
    }

    private static void promise4Programs() {
        part = "promise 4, programs";
        String[] programs = {
            "", "a=x;", "f=0;", "^99;", "^10;", "^0;", "!x<y;", "!x>y;", "!x=y;", "!x#y;", "^a+b-c*d/e%f;",
            "?x<1{}", "?x<1{}{}", "?x<1{^1;}{^2;}", "@x<1{}", "@x<1{a=1;b=2;}", "![x<1];", "![x<1|y<1]&a=1;", "![[[[x<1]]]];",
            "^((((x))));", "?x<1{?x<1{?x<1{?x<1{}}}}", "?x<1{![(x)<(1)];}", "@x<(y){@x<(((y))){}}", "^(x)-(y);",
            "?x<1{}?x<1{}", "?x<1{}{}?x<1{}{}", "!(x)<1;", "![(x)<1|x<1];",
        };
        for (String text : programs) {
            MutantTester t = new MutantTester();
            write(t, text);
            due("yes", text, () -> t.compile() >= 0 ? "yes" : "no");
        }
        String[] none = {
            "a", "a=", "a=x", "a=;", "=x;", "g=x;", "x=1;", "y=1;", "a=g;", "^;", "^", "^x", ";", "a=x;;", "^05;", "^123;", "^00;",
            "^-1;", "^+1;", "^1+;", "^1+-1;", "^1++1;", "^*1;", "^x y;", " ", "^x; ", "^xy;", "^1x;", "^x1;", "^();", "^(x;", "^x);", "^[x];",
            "^x<1;", "!x;", "!x<;", "!<1;", "!x<y<1;", "!x==y;", "!x<=y;", "!x<1&;", "!&x<1;", "!x<1|;", "!x<1&&y<1;", "!x<1,y<1;", "!(x<1);", "!(x<1)&y<1;",
            "![x<1;", "!x<1];", "![];", "![x]<1;", "![x<1]<1;", "?x<1;", "?x<1", "?x<1{", "?x<1}", "?{}", "?x{}", "?x<1{}{}{}", "?x<1{};",
            "?x<1{}else{}", "@x<1", "@x<1{", "@{}", "@x<1{}{}", "@x<1a=1;", "}", "{}", "{", "a=x;}", "?x<1{^1;", "?x<1{(}", "![x<(1];)", "?x<1{^1;)",
            "^(((((x)))));", "![[[[[x<1]]]]];", "?x<1{?x<1{?x<1{?x<1{?x<1{}}}}}", "@x<1{@x<1{![[(x)<1]];}}", "?x<1{![[[(x)<1]]];}", "A=1;", "^X;", "!x~y;", "^x^y;", "a=b=1;",
            "!x<1", "!", "?", "@", "a=1;b", "^1;}",
        };
        for (String text : none) {
            MutantTester t = new MutantTester();
            write(t, text);
            due(ARGUMENT, text, t::compile);
        }
    }

    private static String sum(String begin, int constants, int inputs) {
        StringBuilder text = new StringBuilder(begin);
        for (int i = 0; i < constants + inputs; i++) {
            text.append(i == 0 ? "" : "+").append(i < constants ? '1' : 'x');
        }
        return text.append(';').toString();
    }

    private static void promise4Limits() {
        part = "promise 4, how many";
        due(1, "a=x;", () -> of("a=x;").mutant(1, 3));
        due(1, "a statement", () -> countOf("a=x;"));
        due(3, "a constant", () -> countOf("^10;"));
        due(5, "an operator", () -> countOf("^x+y;"));
        due(4, "a comparison", () -> countOf("!x<y;"));
        due(8, "an and", () -> countOf("!x<y&x>y;"));
        due(8, "an or", () -> countOf("!x<y|x>y;"));
        String pieces = "?x<y" + "&x<y".repeat(13) + "{}";
        due(1 + 14 * 3 + 13, pieces, () -> countOf(pieces));
        dueClass(56, pieces, 56);
        dueRun("?x=y" + "&x=y".repeat(12) + "{^7;}", 2, 2, 0, 7, 0);
        due(119, "119", () -> countOf(sum("^", 3, 26)));
        due(120, "120", () -> countOf(sum("a=x;^", 7, 20)));
        due(STATE, "121", () -> countOf(sum("^", 4, 25)));
        due(STATE, "122", () -> countOf(sum("a=x;^", 8, 19)));
        due(STATE, "171", () -> countOf(sum("^", 29, 0)));
        due(ARGUMENT, "many, but no program", () -> countOf(sum("^", 29, 0).replace(';', '+')));
    }

    private static int countOf(String text) {
        MutantTester t = new MutantTester();
        write(t, text);
        return t.compile();
    }

    private static void promise4LeavesAsItWas() {
        part = "promise 4, what stays";
        MutantTester t = of("@x>a{a=a+1;}^a*y;");
        t.fuel(9);
        t.test(2, 3);
        t.matrix();
        int classes = t.score(0);
        t.run(0, 3, 5);
        for (String bad : new String[] {"^y+1", sum("^", 29, 0)}) {
            write(t, bad);
            due(bad.length() > 50 ? STATE : ARGUMENT, "compile", t::compile);
            due(15, "value", t::value);
            due(3, "took", t::took);
            due(classes, "the matrix", () -> t.score(0));
            due(true, "killed", () -> t.killed(1, 0));
            due(0, "the first site", () -> t.mutant(1, 0));
            due(4, "its kind", () -> t.mutant(1, 1));
        }
        due(0, "run", () -> t.run(0, 4, 6));
        due(24, "value", t::value);
        due(1, "the next test", () -> t.test(0, 0));
        t.matrix();
        write(t, "^y-1;");
        due(7, "compile", t::compile);
        due(0, "no run of what is compiled", t::value);
        due(0, "it took nothing", t::took);
        due(STATE, "the matrix is gone", () -> t.score(0));
        due(STATE, "killed", () -> t.killed(1, 0));
        due(STATE, "reached", () -> t.reached(1, 0));
        due(0, "the tests are gone", () -> t.test(1, 1));
        write(t, "@1>0{}");
        t.compile();
        due(3, "the fuel stays", () -> t.run(0, 0, 0));
        due(9, "took", t::took);
        due(8, "the same text again", t::compile);
        due(0, "took of it", t::took);
    }

    private static void dueMutant(MutantTester t, int m, int site, int kind, int instead) {
        due(site, "site of " + m, () -> t.mutant(m, 0));
        due(kind, "kind of " + m, () -> t.mutant(m, 1));
        due(instead, "what is instead of " + m, () -> t.mutant(m, 2));
    }

    private static void promise5() {
        part = "promise 5";
        MutantTester t = of("?x<9&y#0{a=x*99;}^0;");
        int[][] all = {
            {0, 4, 0}, {2, 1, '>'}, {2, 1, '='}, {2, 1, '#'}, {3, 3, 10}, {3, 3, 8}, {4, 2, '|'}, {6, 1, '<'}, {6, 1, '>'}, {6, 1, '='},
            {7, 3, 1}, {7, 3, -1}, {9, 4, 0}, {12, 0, '+'}, {12, 0, '-'}, {12, 0, '/'}, {12, 0, '%'}, {13, 3, 100}, {13, 3, 98},
            {17, 4, 0}, {18, 3, 1}, {18, 3, -1},
        };
        due(all.length, "compile", t::compile);
        for (int m = 1; m <= all.length; m++) {
            dueMutant(t, m, all[m - 1][0], all[m - 1][1], all[m - 1][2]);
        }
        for (int m : new int[] {0, -1, 23, 120, 121, Integer.MAX_VALUE, Integer.MIN_VALUE}) {
            due(INDEX, "mutant " + m, () -> t.mutant(m, 0));
            due(INDEX, "mutant " + m + " with no what", () -> t.mutant(m, 4));
        }
        for (int what : new int[] {-1, 4, Integer.MAX_VALUE, Integer.MIN_VALUE}) {
            due(ARGUMENT, "what " + what, () -> t.mutant(1, what));
            due(STATE, "what " + what + " of nothing", () -> new MutantTester().mutant(1, what));
        }
        MutantTester operators = of("^a+b-c*d/e%f;");
        String signs = "+-*/%";
        for (int i = 0; i < 5; i++) {
            String others = signs.replace(signs.substring(i, i + 1), "");
            for (int k = 0; k < 4; k++) {
                dueMutant(operators, 2 + 4 * i + k, 2 + 2 * i, 0, others.charAt(k));
            }
        }
        MutantTester comparisons = of("!a<b|a>b|a=b|a#b;");
        dueMutant(comparisons, 2, 2, 1, '>');
        dueMutant(comparisons, 5, 4, 2, '&');
        dueMutant(comparisons, 6, 6, 1, '<');
        dueMutant(comparisons, 7, 6, 1, '=');
        dueMutant(comparisons, 8, 6, 1, '#');
        dueMutant(comparisons, 12, 10, 1, '#');
        dueMutant(comparisons, 16, 14, 1, '=');
        MutantTester nested = of("?x<1{@x<1{a=1;}}{!x<1;}");
        dueMutant(nested, 7, 5, 4, 0);
        dueMutant(nested, 13, 10, 4, 0);
        dueMutant(nested, 16, 17, 4, 0);
    }

    /** Mutant 1 leaves the first statement out: it is of class 0 if that folds away. */
    private static void promise5Classes() {
        part = "promise 5, classes";
        String[] nothing = {
            "a=a;", "a=(a);", "a=a+0;", "a=0+a;", "a=a-0;", "a=a*1;", "a=1*a;", "a=a/1;", "a=a+(1-1);", "a=a*(7/7);", "a=a*(7%2);", "a=a-(3*0);",
            "a=(8-7)*a/(2-1)+(0-0);", "a=a+0-0+0;", "a=a-(5/9);", "!1<2;", "!2>1;", "!1=1;", "!1#2;", "!1<2&3<4;", "!1<2|4<3;", "!4<3|1<2;", "!1<2|x<1;",
            "@2<1{a=1;}", "@1>2{}", "@1=2{}", "@1#1{}", "@2<1&x<1{}", "@2<1|2<1{}", "?1<2{}", "?2<1{}", "?1<2{a=a;}", "?2<1{a=1;}", "?1<2{}{a=1;}",
            "?2<1{a=1;}{!1<2;}", "?1<2{?1<2{a=a*1;}}", "!0-1<0;", "!0-1=0-1;", "!98+1=99;", "!9*9*9*9*9*9*9*9*9*9<0;",
        };
        for (String text : nothing) {
            dueClass(0, text, 1);
        }
        String[] something = {
            "a=b;", "a=x;", "b=a;", "a=0;", "a=0-a;", "a=a*0;", "a=0*a;", "a=a-a;", "a=a%1;", "a=1/a;", "a=1%a;", "a=a+1-1;", "a=1+a-1;", "a=a+(0/0);", "a=a+0/0;",
            "a=a*(1%0);", "a=a/0;", "a=a+a;", "!x<1;", "!x=x;", "!1>2;", "!1<1;", "!0/0=0;", "!x<1|1<2;", "!x<1&2<1;", "!x<1&1<2;", "@1<2{}", "@x<1{}", "@x<1&2<1{}", "?x<1{}", "?x<1{}{}",
            "?x<1|1<2{}", "?1<2{a=1;}", "?2<1{}{a=1;}", "^0;", "^a;", "?1<2{^0;}", "!0-1>0;", "!9*9*9*9*9*9*9*9*9*9>0;",
        };
        for (String text : something) {
            dueClass(1, text, 1);
        }
        part = "promise 5, statements behind a return";
        dueClass(0, "^1;a=2;", 4);
        dueClass(0, "^1;a=2;", 5);
        dueClass(0, "?1<2{^1;}^2;", 12);
        dueClass(0, "?2<1{}{^1;}^2;", 12);
        dueClass(0, "?1<2{?1<2{^1;}}a=1;^2;", 20);
        dueClass(0, "?1<2{?1<2{^1;}}a=1;^2;", 23);
        dueClass(1, "?1<2{^1;}^2;", 10);
        dueClass(10, "?x<1{^1;}^2;", 10);
        dueClass(0, "?x<1{^1;a=2;}", 10);
        dueClass(10, "?x<1{^1;}{^2;}^3;", 10);
        dueClass(13, "?x<1{^1;}{^2;}^3;", 13);
        dueClass(10, "@1<2{^1;}^2;", 10);
    }

    private static void promise5Decided() {
        part = "promise 5, decided";
        MutantTester t = of("^9-x+0;");
        due(0, "x - 0 is x + 0", () -> t.mutant(8, 3));
        due(9, "x * 0 stays", () -> t.mutant(9, 3));
        // Left out; 2<2, 0<2; 1>2, 1=2, 1#2; 1<3, 1<1.
        int[] classes = {0, 2, 0, 2, 2, 0, 0, 2};
        for (int m = 1; m <= 8; m++) {
            dueClass(classes[m - 1], "!1<2;", m);
        }
        // FALSE & C and TRUE & FALSE are both FALSE; ! with FALSE stays.
        dueClass(0, "!1<2&2<1;", 2);
        dueClass(1, "!1<2&2<1;", 1);
        // TRUE | C is TRUE, so nothing; the | is mutant 9.
        dueClass(1, "!1<2&x<1;", 9);
        // C | FALSE is C, and C & FALSE stays.
        dueClass(7, "!x<1|2<1;", 7);
        // Mutants 8 and 10 are 3<1 and 2>1: the one FALSE still, the other TRUE, and C | TRUE stays.
        dueClass(0, "!x<1|2<1;", 8);
        dueClass(10, "!x<1|2<1;", 10);
        dueClass(0, "^(a+b)+(0);", 6);
        // The namesake is the least of its class: a constant 1 more is as the next one 1 less.
        dueClass(2, "^1+1;", 2);
        dueClass(2, "^1+1;", 8);
        dueClass(3, "^1+1;", 9);
        dueClass(4, "^1+1;", 7);
        // x - 1, x * 1, x / 1, x % 1; x + 2, x + 0.
        int[] behind = {1, 2, 3, 3, 5, 6, 3};
        for (int m = 1; m <= 7; m++) {
            dueClass(behind[m - 1], "^x+1;", m);
        }
        // 2 + x, 0 + x; 1 - x, 1 * x, 1 / x, 1 % x.
        int[] ahead = {1, 2, 3, 4, 3, 6, 7};
        for (int m = 1; m <= 7; m++) {
            dueClass(ahead[m - 1], "^1+x;", m);
        }
        // All statements of the row that is taken come, in their order: with the last one left out another is last.
        dueClass(0, "?1<2{a=x;b=y;a=a;}", 11);
        dueClass(9, "?1<2{a=x;b=y;a=a;}", 9);
        dueClass(10, "?1<2{a=x;b=y;a=a;}", 10);
        // A statement left out of a while is as one that folds away.
        dueClass(0, "@x<1{a=a;}", 7);
        dueClass(7, "@x<1{a=b;}", 7);
    }

    private static void promise6() {
        part = "promise 6";
        MutantTester t = of("^x;");
        for (int i = 0; i < 8; i++) {
            int number = i;
            due(number, "test", () -> t.test(1, 2));
        }
        t.matrix();
        due(STATE, "the ninth", () -> t.test(1, 2));
        due(1, "the matrix stays then", () -> t.score(0));
        due(INDEX, "and there is no ninth", () -> t.killed(1, 8));
        t.compile();
        due(0, "the first again", () -> t.test(0, 0));
        t.matrix();
        due(1, "the second", () -> t.test(0, 0));
        due(STATE, "there is no matrix", () -> t.score(0));
        due(STATE, "there is no matrix", () -> t.killed(1, 0));
        due(STATE, "there is no matrix", () -> t.reached(1, 0));
        due(STATE, "of nothing", () -> new MutantTester().test(0, 0));
    }

    private static void promise7() {
        part = "promise 7";
        MutantTester t = new MutantTester();
        for (int n : new int[] {0, -1, 51, Integer.MAX_VALUE, Integer.MIN_VALUE}) {
            due(false, "fuel " + n, () -> t.fuel(n));
        }
        write(t, "@0<1{a=a+1;}");
        t.compile();
        t.run(0, 0, 0);
        due(20, "what was refused changes nothing", t::took);
        for (int n : new int[] {1, 50, 7}) {
            due(true, "fuel " + n, () -> t.fuel(n));
            due(3, "run", () -> t.run(0, 0, 0));
            due(n, "took", t::took);
        }
        t.test(0, 0);
        t.matrix();
        due(false, "fuel", () -> t.fuel(51));
        due(false, "the matrix stays", () -> t.killed(2, 0) && t.killed(3, 0) && t.killed(4, 0) && t.killed(1, 0) && t.killed(6, 0));
        due(true, "the same fuel", () -> t.fuel(7));
        due(STATE, "there is no matrix", () -> t.killed(1, 0));
        due(STATE, "there is no matrix", () -> t.score(0));
    }

    private static void promise8() {
        part = "promise 8";
        dueRun("", 1, 2, 0, 0, 0);
        dueRun("^x;", -5, 2, 0, -5, 0);
        dueRun("^y;", -5, 2, 0, 2, 0);
        dueRun("^a+b+c+d+e+f;", 1, 2, 0, 0, 0);
        dueRun("a=1;b=2;c=3;d=4;e=5;f=6;^a+b*10-c*d+e*f;", 0, 0, 0, 39, 0);
        dueRun("a=7;a=a+x;", 1, 2, 0, 0, 0);
        dueRun("^x-y-1;", 10, 3, 0, 6, 0);
        dueRun("^x-(y-1);", 10, 3, 0, 8, 0);
        dueRun("^x+y*2;", 10, 3, 0, 16, 0);
        dueRun("^(x+y)*2;", 10, 3, 0, 26, 0);
        dueRun("^x/y*y;", 10, 3, 0, 9, 0);
        dueRun("^x%y;", -10, 3, 0, -1, 0);
        dueRun("^x/y;", -10, 3, 0, -3, 0);
        dueRun("^x+1;", Integer.MAX_VALUE, 0, 0, Integer.MIN_VALUE, 0);
        dueRun("^x*y;", 65536, 65536, 0, 0, 0);
        dueRun("^x/y;", Integer.MIN_VALUE, -1, 0, Integer.MIN_VALUE, 0);
        dueRun("^x%y;", Integer.MIN_VALUE, -1, 0, 0, 0);
        dueRun("^x/y;", 1, 0, 1, 0, 0);
        dueRun("^x%y;", 1, 0, 1, 0, 0);
        dueRun("!x<y;^1;", 1, 2, 0, 1, 0);
        dueRun("!x<y;^1;", 2, 2, 2, 0, 0);
        dueRun("!x>y;^1;", 2, 2, 2, 0, 0);
        dueRun("!x=y;^1;", 2, 2, 0, 1, 0);
        dueRun("!x#y;^1;", 2, 2, 2, 0, 0);
        dueRun("?x<y{^1;}{^2;}", 0, 1, 0, 1, 0);
        dueRun("?x<y{^1;}{^2;}", 1, 1, 0, 2, 0);
        dueRun("?x<y{a=1;}^a;", 1, 1, 0, 0, 0);
        dueRun("?x<y{a=1;}{a=2;}^a;", 1, 2, 0, 1, 0);
        dueRun("@a<x{a=a+1;}^a;", 5, 0, 0, 5, 5);
        dueRun("@a<x{a=a+1;}^a;", 20, 0, 0, 20, 20);
        dueRun("@a<x{a=a+1;}^a;", 21, 0, 3, 0, 20);
        dueRun("@a<x{a=a+1;}^a;", 0, 0, 0, 0, 0);
        dueRun("@a<4{a=a+1;b=0;@b<4{b=b+1;}}^a*b;", 0, 0, 0, 16, 20);
        dueRun("@a<4{a=a+1;b=0;@b<5{b=b+1;}}^a*b;", 0, 0, 3, 0, 20);
        dueRun("@a<1{a=a/0;}", 0, 0, 1, 0, 1);
        dueRun("@a<9{a=a+1;!a<x;}", 3, 0, 2, 0, 3);
        dueRun("@a<9{a=a+1;?a=x{^a;}}", 3, 0, 0, 3, 3);
        MutantTester t = of("^x+4;");
        int[] values = {7, 0, -1, 12, 0, 3, 8, 6};
        for (int m = 0; m < values.length; m++) {
            int number = m;
            due(0, "mutant " + m, () -> t.run(number, 3, 0));
            due(values[m], "value of mutant " + m, t::value);
        }
        for (int m : new int[] {-1, 8, 121, Integer.MAX_VALUE, Integer.MIN_VALUE}) {
            due(INDEX, "mutant " + m, () -> t.run(m, 0, 0));
            due(STATE, "mutant " + m + " of nothing", () -> new MutantTester().run(m, 0, 0));
        }
        due(6, "what throws changes no value", t::value);
        MutantTester left = of("?x<1{a=3;}{a=4;}^a+5;");
        due(0, "the ? left out", () -> left.run(1, 0, 0));
        due(5, "value", left::value);
        MutantTester loop = of("@a<3{a=a+1;}^a;");
        due(3, "the statement in the @ left out", () -> loop.run(7, 0, 0));
        due(20, "took", loop::took);
        due(0, "the @ left out", () -> loop.run(1, 0, 0));
        due(0, "took", loop::took);
    }

    private static void promise8Order() {
        part = "promise 8, from left to right";
        dueRun("!x<1&1/x=1;^1;", 1, 0, 2, 0, 0);
        dueRun("!x<1&1/x=1;^1;", 0, 0, 1, 0, 0);
        dueRun("!x<1|1/x=1;^1;", 0, 0, 0, 1, 0);
        dueRun("!x<1|1/x=1;^1;", 1, 0, 0, 1, 0);
        dueRun("!x<1|1/x=1;^1;", 2, 0, 2, 0, 0);
        dueRun("!x=0|x=1&y=1;^1;", 0, 5, 0, 1, 0);
        dueRun("!x=1&y=1|x=0;^1;", 0, 5, 0, 1, 0);
        dueRun("![x=0|x=1]&y=1;^1;", 0, 5, 2, 0, 0);
        dueRun("![x=0|x=1]&y=1;^1;", 1, 1, 0, 1, 0);
        dueRun("!x=5&1/y=0&2/y=0;^1;", 1, 0, 2, 0, 0);
        MutantTester t = of("!x=0&1/y=0;^1;");
        due(1, "the right side is worked out", () -> t.run(0, 0, 0));
        due(0, "with | it is not", () -> t.run(7, 0, 0));
        due(2, "the right side is not worked out", () -> t.run(0, 1, 0));
        due(1, "with | it is", () -> t.run(7, 1, 0));
    }

    private static void promise9And10() {
        part = "promises 9 and 10";
        MutantTester t = of("@a<x{a=a+1;}^y/x;");
        due(0, "value before a run", t::value);
        due(0, "took before a run", t::took);
        t.run(0, 2, 8);
        due(4, "value", t::value);
        due(2, "took", t::took);
        due(4, "value again", t::value);
        t.run(0, 0, 8);
        due(0, "value of a trap", t::value);
        due(0, "took of it", t::took);
        t.run(0, 99, 8);
        due(0, "value of a tired one", t::value);
        due(20, "took of it", t::took);
        t.run(0, 2, 8);
        due(INDEX, "no such mutant", () -> t.run(99, 1, 1));
        t.test(5, 5);
        t.matrix();
        t.fuel(1);
        due(4, "value stays", t::value);
        due(2, "took stays", t::took);
        t.compile();
        due(0, "value", t::value);
        due(0, "took", t::took);
    }

    private static void promise11() {
        part = "promise 11";
        due(0, "of no text", () -> of("").matrix());
        MutantTester t = of("?x<1{^y;}^y+0;");
        // 1 ?, 2-4 <, 5-6 1, 7 ^y, 8 ^y+0, 9-12 + (9, the -, is class 0), 13-14 0: 13 namesakes.
        due(14, "mutants", t::compile);
        due(0, "no tests, no runs", t::matrix);
        due(13, "classes", () -> t.score(0));
        t.test(0, 4);
        due(7, "what the first test reaches", t::matrix);
        due(7, "anew", t::matrix);
        t.test(5, 4);
        due(7 + 12, "both", t::matrix);
        t.run(0, 0, 3);
        t.matrix();
        due(3, "value stays", t::value);
        MutantTester w = of("@a<x{a=a+1;}");
        w.run(0, 2, 0);
        w.test(9, 0);
        w.matrix();
        due(2, "took stays", w::took);
        MutantTester same = of("^1+1;");
        // 2: 2+1, 3: 0+1, 4: 1-1, 5: 1*1 (as 3), 6: 1/1 (as 3), 7: 1%1 (as 4), 8: 1+2 (as 2), 9: 1+0 (as 3).
        same.test(0, 0);
        due(4, "the least ones alone are run", same::matrix);
        due(STATE, "of nothing", () -> new MutantTester().matrix());
    }

    private static void promise12() {
        part = "promise 12";
        MutantTester t = of("?x<1{^y;}^y+0;");
        t.test(0, 4);
        t.test(5, 4);
        t.test(0, 0);
        t.matrix();
        // With x = 0 and y = 4 every way returns 4, but where the ^y of the end is left out: nobody comes there.
        boolean[] first = new boolean[15];
        boolean[] second = {false, false, false, false, false, false, false, false, true, false, true, true, true, true, true};
        for (int m = 1; m <= 14; m++) {
            int number = m;
            due(first[m], "killed " + m + " by 0", () -> t.killed(number, 0));
            due(second[m], "killed " + m + " by 1", () -> t.killed(number, 1));
        }
        for (int m : new int[] {0, -1, 15, Integer.MAX_VALUE, Integer.MIN_VALUE}) {
            due(INDEX, "mutant " + m, () -> t.killed(m, 0));
        }
        for (int test : new int[] {-1, 3, 8, 32, Integer.MAX_VALUE, Integer.MIN_VALUE}) {
            due(INDEX, "test " + test, () -> t.killed(1, test));
        }
        MutantTester outcome = of("!x<5;^0;");
        // The value is 0 both times: the outcome alone tells.
        outcome.test(9, 0);
        outcome.matrix();
        due(true, "another outcome", () -> outcome.killed(1, 0));
        due(false, "the return left out is not reached", () -> outcome.killed(7, 0));
        MutantTester same = of("^1+1;");
        same.test(0, 0);
        same.matrix();
        due(true, "as the least one", () -> same.killed(9, 0));
        MutantTester zero = of("^x+0;");
        zero.test(3, 0);
        zero.matrix();
        due(false, "class 0", () -> zero.killed(2, 0));
        MutantTester many = of(sum("a=x;^", 7, 20));
        many.test(3, 0);
        many.matrix();
        due(true, "mutant 120", () -> many.killed(120, 0));
        write(many, "^9;");
        many.compile();
        many.test(3, 0);
        many.matrix();
        write(many, "?x<0{^9;}");
        many.compile();
        many.test(3, 0);
        many.matrix();
        due(false, "what was killed before", () -> many.killed(1, 0));
        due(2, "x > 0 and x # 0 are killed", () -> many.score(1));
        MutantTester not = of("^x;");
        not.test(1, 1);
        due(STATE, "no matrix", () -> not.killed(1, 0));
        due(STATE, "no matrix, no mutant", () -> not.killed(9, 9));
    }

    private static void dueReached(MutantTester t, int test, int... places) {
        int many = 0;
        for (int m = 1; m <= 120; m++) {
            int number = m;
            int site;
            try {
                site = t.mutant(m, 0);
            } catch (IndexOutOfBoundsException e) {
                break;
            }
            boolean among = false;
            for (int place : places) {
                among |= place == site;
            }
            many++;
            due(among, "reached " + m + " (place " + site + ") by " + test, () -> t.reached(number, test));
        }
        int asMany = many;
        due("some", "mutants", () -> asMany > 0 ? "some" : "none");
    }

    private static void promise13() {
        part = "promise 13";
        MutantTester t = of("?x<1&y>2{a=3;}{b=4/y;}!x#5;^6;");
        t.test(0, 5);
        t.test(0, 0);
        t.test(1, 2);
        t.test(5, 1);
        t.test(0, 1);
        t.matrix();
        dueReached(t, 0, 0, 2, 3, 4, 6, 7, 9, 11, 22, 24, 25, 27, 28);
        dueReached(t, 1, 0, 2, 3, 4, 6, 7, 15, 17, 18);
        dueReached(t, 2, 0, 2, 3, 4, 15, 17, 18, 22, 24, 25, 27, 28);
        dueReached(t, 3, 0, 2, 3, 4, 15, 17, 18, 22, 24, 25);
        for (int m : new int[] {0, -1, 99, Integer.MAX_VALUE, Integer.MIN_VALUE}) {
            due(INDEX, "mutant " + m, () -> t.reached(m, 0));
        }
        for (int test : new int[] {-1, 5, 8, 64, Integer.MAX_VALUE, Integer.MIN_VALUE}) {
            due(INDEX, "test " + test, () -> t.reached(1, test));
        }
        MutantTester or = of("!x<1|y<2;a=x/y;b=1;^7;");
        or.test(0, 0);
        or.matrix();
        dueReached(or, 0, 0, 2, 3, 4, 9, 12);
        MutantTester trap = of("^1/x+2;");
        trap.test(0, 0);
        trap.matrix();
        dueReached(trap, 0, 0, 1, 2);
        MutantTester dead = of("^1;^2;@0<1{}");
        dead.test(0, 0);
        dead.matrix();
        dueReached(dead, 0, 0, 1);
        MutantTester tired = of("@0<1{a=2;}^3;");
        tired.test(0, 0);
        tired.matrix();
        dueReached(tired, 0, 0, 1, 2, 3, 5, 7);
        MutantTester own = of("?x<1{^1+1;}");
        own.test(1, 0);
        own.matrix();
        dueReached(own, 0, 0, 2, 3);
        MutantTester last = of("xxxxxxxxxxxxxxxxxxxxxxxxxxxxxxxxxxxxxxxxxxxxxxxxxxxx".replace("xxxx", "a=x;") + "^(x)*9;");
        last.test(1, 0);
        last.matrix();
        due(true, "place 57", () -> last.reached(20, 0));
        MutantTester not = of("^x;");
        not.test(1, 1);
        due(STATE, "no matrix", () -> not.reached(1, 0));
        due(STATE, "no matrix, no mutant", () -> not.reached(9, 9));
    }

    private static void promise14() {
        part = "promise 14";
        MutantTester t = of("^1+1;");
        due(STATE, "no matrix", () -> t.score(0));
        due(STATE, "no matrix, no what", () -> t.score(2));
        t.matrix();
        due(4, "classes", () -> t.score(0));
        due(0, "killed without tests", () -> t.score(1));
        t.test(0, 0);
        t.matrix();
        due(4, "classes", () -> t.score(0));
        due(4, "killed", () -> t.score(1));
        for (int what : new int[] {-1, 2, Integer.MAX_VALUE, Integer.MIN_VALUE}) {
            due(ARGUMENT, "what " + what, () -> t.score(what));
        }
        MutantTester two = of("?x<1{^y;}^y+0;");
        two.test(0, 4);
        two.matrix();
        due(0, "none is killed", () -> two.score(1));
        two.test(5, 4);
        two.matrix();
        due(6, "by some test", () -> two.score(1));
        two.test(5, 5);
        two.matrix();
        due(6, "each is counted once", () -> two.score(1));
        due(13, "classes", () -> two.score(0));
        due(0, "of no text", () -> {
            MutantTester none = of("");
            none.matrix();
            return none.score(0);
        });
    }
}
