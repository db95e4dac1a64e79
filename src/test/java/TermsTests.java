/** The part 'Terms' of the document, a test for each of its sentences; every answer worked out by hand. */
public final class TermsTests extends SentenceTests {
    /** 60 characters: 13 statements of four, then ^ at place 52 and a constant at place 58. */
    private static final String LONGEST = "a=x;".repeat(13) + "^10+x*1;";

    public static void main(String[] args) {
        part(TermsTests::text);
        part(TermsTests::statements);
        part(TermsTests::expressions);
        part(TermsTests::conditions);
        part(TermsTests::brackets);
        part(TermsTests::numbers);
        part(TermsTests::decisions);
        part(TermsTests::fuel);
        part(TermsTests::outcomes);
        part(TermsTests::sites);
        part(TermsTests::operators);
        part(TermsTests::constantsAndStatements);
        part(TermsTests::reached);
        part(TermsTests::foldedNumbers);
        part(TermsTests::foldedConditions);
        part(TermsTests::foldedStatements);
        part(TermsTests::equalTrees);
        part(TermsTests::stays);
        part(TermsTests::classes);
        part(TermsTests::killed);
        finish();
    }

    private static void text() {
        sentence("THE TEXT has at most 60 characters");
        MutantTester t = typed(LONGEST);
        due(13 + 1 + 2 + 4 + 4 + 2, "compile of 60", t::compile);
        due(-1, "character 61", () -> t.type('x'));
        due(26, "compile without it", t::compile);
        dueMutant(t, 26, 58, 3, 0);
        dueRun(t, "the longest", 0, 7, 0, 0, 17, 0);
        dueRun(t, "the longest", 26, 7, 0, 0, 10, 0);
        due(0, "test", () -> t.test(7, 0));
        due(13, "matrix: the 13 statements are one class, x / 1 is that of the program", t::matrix);
        due(true, "place 58 is reached", () -> t.reached(26, 0));
        due(true, "and its mutant killed", () -> t.killed(26, 0));

        sentence("characters 32 .. 126; there are no blanks");
        dueNoPrograms(" ", " ^x;", "^ x;", "^x ;", "^x; ", "^1 0;", "? x<1{}", "?x<1{ }", "?x<1{} {}", "a =x;", "a=x; b=y;", "!x< 1;", "~", "^x~1;");
        dueCount(1 + 4, "^x+y;");

        sentence("It is a ROW of statements (also none: a program without mutants)");
        MutantTester none = typed("");
        due(0, "compile", none::compile);
        dueRun(none, "no text", 0, 5, 6, 0, 0, 0);
        due(INDEX, "run 1", () -> none.run(1, 0, 0));
        due(INDEX, "mutant 1", () -> none.mutant(1, 0));
        due(0, "test", () -> none.test(5, 6));
        due(0, "matrix", none::matrix);
        due(0, "score 0", () -> none.score(0));
        due(0, "score 1", () -> none.score(1));
        due(INDEX, "killed", () -> none.killed(1, 0));
        due(INDEX, "reached", () -> none.reached(1, 0));
        duePrograms("a=x;", "a=x;b=y;", "?x<1{}", "?x<1{}{}", "@x<1{}");
        dueNoPrograms(";", "a=x;;", "}", "{}", "a=x", "^x", "!x<1", "?x<1", "@x<1", "a", "a=", "?", "@", "!", "^", "a=x;b", "a=x;}");
    }

    private static void statements() {
        sentence("v=E; sets a variable v (a .. f");
        dueReturn("a=1;b=2;c=3;d=4;e=5;f=6;^a+b*10-c*d+e*f;", 0, 0, 39);
        dueReturn("f=x;^f;", 8, 0, 8);
        dueReturn("a=x;a=a+y;^a;", 8, 3, 11);
        dueNoPrograms("g=1;", "x=1;", "y=1;", "A=1;", "`=1;", "1=1;", "aa=1;", "a=b=1;", "a==1;", "a=;", "=1;", "a=x<1;");

        sentence("0 at first)");
        dueReturn("^a+b+c+d+e+f;", 5, 6, 0);
        MutantTester again = compiled("a=a+1;f=f+a;^a*10+f;");
        dueRun(again, "first", 0, 0, 0, 0, 11, 0);
        dueRun(again, "second", 0, 0, 0, 0, 11, 0);
        again.test(0, 0);
        again.test(0, 0);
        again.matrix();
        dueRun(again, "behind a matrix", 0, 0, 0, 0, 11, 0);
        MutantTester kept = tested("a=a+1;b=x;^a;", 0, 0);
        due(false, "nobody reads b, and the a of one run is not that of the next", () -> kept.killed(8, 0));

        sentence("?C{ROW} or ?C{ROW}{ROW}: if, else");
        dueReturn("?x<5{^1;}^2;", 4, 0, 1);
        dueReturn("?x<5{^1;}^2;", 5, 0, 2);
        dueReturn("?x<5{^1;}{^2;}^3;", 4, 0, 1);
        dueReturn("?x<5{^1;}{^2;}^3;", 5, 0, 2);
        dueReturn("?x<5{}{^2;}^3;", 4, 0, 3);
        dueReturn("?x<5{a=1;}{a=2;}a=a+5;^a;", 4, 0, 6);
        dueReturn("?x<5{?y<5{^1;}{^2;}}{^3;}", 0, 9, 2);
        dueNoPrograms("?x<1{}{}{}", "?x<1", "?x<1;", "?{}", "?x{}", "?x<1{", "?x<1}", "?x<1{}{", "?x<1{};", "?x<1a=1;", "{}");

        sentence("@C{ROW}: while");
        dueRun("@a<x{a=a+1;}^a;", 3, 0, 0, 3, 3);
        dueRun("@a<x{a=a+1;}^a;", 0, 0, 0, 0, 0);
        dueNoPrograms("@x<1{}{}", "@x<1", "@x<1;", "@{}", "@x{}", "@x<1{", "@x<1}");

        sentence("!C; has to hold, else the run FAILS");
        dueRun("!x<5;^1;", 4, 0, 0, 1, 0);
        dueRun("!x<5;^1;", 5, 0, 2, 0, 0);
        dueRun("@a<9{a=a+1;!a<x;}^1;", 3, 0, 2, 0, 3);
        dueNoPrograms("!;", "!x;", "!x<1", "!x<1{}");

        sentence("^E; RETURNS");
        dueReturn("^x;^y;", 1, 2, 1);
        dueReturn("^x;a=1/0;", 1, 2, 1);
        dueReturn("?x<5{^y;}^1/0;", 1, 2, 2);
        dueRun("@0<1{a=a+1;?a=x{^a*9;}}", 3, 0, 0, 27, 3);
        dueNoPrograms("^;", "^x", "^x<1;", "^x{}");
    }

    private static void expressions() {
        sentence("E: TERMS with + or - between, from left to right");
        dueReturn("^x-y-1;", 10, 3, 6);
        dueReturn("^x-y+1;", 10, 3, 8);
        dueReturn("^x-(y+1);", 10, 3, 6);
        dueNoPrograms("^x+;", "^+x;", "^x++y;", "^x+-y;", "^xy;", "^x1;", "^1x;", "^(x)(y);");

        sentence("a term: FACTORS with * / or % between, from left to right");
        dueReturn("^x/y*y;", 10, 3, 9);
        dueReturn("^x*y/4;", 10, 3, 7);
        dueReturn("^x%y*5;", 11, 3, 10);
        dueReturn("^x*5%y;", 11, 3, 1);
        dueReturn("^x/2/y;", 24, 3, 4);
        dueReturn("^x+y*2;", 10, 3, 16);
        dueReturn("^x*2+y;", 10, 3, 23);
        dueReturn("^(x+y)*2;", 10, 3, 26);
        dueNoPrograms("^x*;", "^*x;", "^x*/y;", "^x**y;", "^/1;", "^%1;");

        sentence("a CONSTANT (0, or a digit 1 .. 9 and perhaps one more digit");
        dueReturn("^0;", 5, 5, 0);
        dueReturn("^1;", 5, 5, 1);
        dueReturn("^9;", 5, 5, 9);
        dueReturn("^10;", 5, 5, 10);
        dueReturn("^19;", 5, 5, 19);
        dueReturn("^90;", 5, 5, 90);
        dueReturn("^99;", 5, 5, 99);

        sentence("05 and 123 are none");
        dueNoPrograms("^05;", "^123;", "^00;", "^01;", "^100;", "^999;", "^x+05;", "!x<00;", "a=012;", "^(100);");

        sentence("nor is one with a - ahead)");
        dueNoPrograms("^-1;", "^-0;", "^x*-1;", "^(-1);", "!x<-1;", "a=-5;", "^--1;", "^+1;");
        dueReturn("^0-1;", 5, 5, -1);

        sentence("x, y (the inputs), a variable, or ( E )");
        dueReturn("^x;", -5, 6, -5);
        dueReturn("^y;", -5, 6, 6);
        dueReturn("^((x)-(y))*(2);", 7, 4, 6);
        dueNoPrograms("^g;", "^z;", "^X;", "^w;", "^();", "^(x;", "^x);", "^[x];", "^{x};", "^(x<1);", "^(x];");
    }

    private static void conditions() {
        sentence("C: PARTS with | between; a part: ATOMS with & between");
        dueRun("!x=0|x=1&y=1;", 0, 5, 0, 0, 0);
        dueRun("!x=1&y=1|x=0;", 0, 5, 0, 0, 0);
        dueRun("![x=0|x=1]&y=1;", 0, 5, 2, 0, 0);
        dueRun("!x=0&y=0&a=0;", 0, 0, 0, 0, 0);
        dueRun("!x=0&y=0&a=0;", 0, 1, 2, 0, 0);
        dueRun("!x=0|y=0|a=1;", 1, 0, 0, 0, 0);
        dueRun("!x=0|y=0|a=1;", 1, 1, 2, 0, 0);
        dueNoPrograms("!x<1&;", "!&x<1;", "!x<1|;", "!|x<1;", "!x<1&&y<1;", "!x<1||y<1;", "!x<1&|y<1;", "!x<1,y<1;");

        sentence("an atom: E, one of < > = #, and E; or [ C ]");
        dueRun("!x+1<y*2;", 2, 2, 0, 0, 0);
        dueRun("![x<y];", 1, 2, 0, 0, 0);
        dueNoPrograms("!x;", "!x<;", "!<x;", "!x<y<1;", "!x<=y;", "!x==y;", "!x!y;", "!(x<1);", "![x];", "![];", "![x<1;", "!x<1];", "![x<1]<1;", "![x]<1;",
            "!(x<1)&y<1;", "![x<1)&y<1;");
    }

    private static void brackets() {
        sentence("Brackets ( [ { are at most 4 in one another, all together");
        duePrograms("^((((x))));", "a=((((x))));", "!((((x))))<1;", "!x<((((1))));", "?((((x))))<1{}", "@((((x))))<1{}", "![[[[x<1]]]];", "![[[(x)<1]]];",
            "![(((x)))<1];", "?x<1{?x<1{?x<1{?x<1{}}}}", "?x<1{}{?x<1{}{?x<1{}{?x<1{}{}}}}", "@x<1{@x<1{@x<1{@x<1{a=x;}}}}", "?x<1{@x<1{![(x)<1];}}",
            "?x<1{^(((x)));}", "?x<1{@x<1{?(x)<1{^(x);}}}", "?x<1{@x<1{?[(x)<1]{}}}");
        dueReturn("^((((x+1))))*2;", 2, 0, 6);
        dueRun("![[[[x<1]]]];", 1, 0, 2, 0, 0);
        dueReturn("?x<1{?x<2{?x<3{?x<4{^7;}}}}", 0, 0, 7);

        sentence("(a fifth one makes it no program)");
        dueNoPrograms("^(((((x)))));", "a=(((((x)))));", "!(((((x)))))<1;", "!x<(((((1)))));", "?(((((x)))))<1{}", "@(((((x)))))<1{}", "![[[[[x<1]]]]];",
            "![[[[(x)<1]]]];", "![((((x))))<1];", "?x<1{?x<1{?x<1{?x<1{?x<1{}}}}}", "?x<1{}{?x<1{}{?x<1{}{?x<1{}{?x<1{}}}}}",
            "@x<1{@x<1{@x<1{@x<1{@x<1{}}}}}", "?x<1{?x<1{?x<1{?x<1{^(x);}}}}", "?x<1{?x<1{?x<1{?x<1{![x<1];}}}}", "?x<1{@x<1{![[(x)<1]];}}",
            "?x<1{^((((x))));}", "?x<1{@x<1{?[((x))<1]{}}}");

        sentence("4 in one another: those beside one another are not counted together");
        duePrograms("^((((x))))+((((y))));", "![[[[x<1]]]]&[[[[y<1]]]];", "^(x)+(x)+(x)+(x)+(x)+(x);", "?x<1{}?x<1{}?x<1{}?x<1{}?x<1{}", "?x<1{}{}?x<1{}{}?x<1{}{}",
            "?[(x)<1]{?x<1{?x<1{?x<1{}}}}", "?x<1{?x<1{?x<1{^(x);}{^(y);}}}^((((x))));");
        dueNoPrograms("^((((x))))+(((((y)))));", "![[[[x<1]]]]&[[[[(y)<1]]]];");
    }

    private static void numbers() {
        sentence("Numbers are ints that wrap");
        dueReturn("^x+1;", GREATEST, 0, LEAST);
        dueReturn("^x+y;", LEAST, LEAST, 0);
        dueReturn("^x-1;", LEAST, 0, GREATEST);
        dueReturn("^0-x;", LEAST, 0, LEAST);
        dueReturn("^x*y;", 65536, 65536, 0);
        dueReturn("^x*y;", 46341, 46341, -2147479015);
        dueReturn("^x*y;", LEAST, -1, LEAST);
        dueReturn("^x;", LEAST, 0, LEAST);
        dueReturn("a=x;^a;", GREATEST, 0, GREATEST);

        sentence("/ and % are as in Java");
        dueReturn("^x/y;", -7, 2, -3);
        dueReturn("^x/y;", 7, -2, -3);
        dueReturn("^x/y;", -7, -2, 3);
        dueReturn("^x%y;", -7, 2, -1);
        dueReturn("^x%y;", 7, -2, 1);
        dueReturn("^x%y;", -7, -2, -1);
        dueReturn("^x/y;", LEAST, -1, LEAST);
        dueReturn("^x%y;", LEAST, -1, 0);

        sentence("by 0 they TRAP");
        dueRun("^x/y;", 1, 0, 1, 0, 0);
        dueRun("^x%y;", 1, 0, 1, 0, 0);
        dueRun("^x/y;", 0, 0, 1, 0, 0);
        dueRun("^x%y;", 0, 0, 1, 0, 0);
        dueRun("^x%y;", LEAST, 0, 1, 0, 0);
        dueRun("a=x/y;^1;", 1, 0, 1, 0, 0);
        dueRun("!x/y#1;^1;", 1, 0, 1, 0, 0);
        dueRun("?x%y=1{^1;}{^2;}", 1, 0, 1, 0, 0);
        dueRun("@x/y=1{^1;}^2;", 1, 0, 1, 0, 0);
        dueRun("^0*(x/y);", 1, 0, 1, 0, 0);
        dueRun("@a<9{a=a+1;b=6/(3-a);}", 0, 0, 1, 0, 3);
        dueReturn("^x/y;", 0, 1, 0);

        sentence("by 0 they TRAP: what was being worked out then is not there in the next run");
        MutantTester t = compiled("^x+(x+(x+(x+x/y)));");
        for (int i = 0; i < 40; i++) {
            dueRun(t, "trap", 0, 1, 0, 1, 0, 0);
        }
        dueRun(t, "no trap", 0, 6, 3, 0, 26, 0);

        sentence("< > = # (is not) compare");
        int[][] pairs = {{1, 2}, {2, 1}, {2, 2}, {LEAST, GREATEST}, {GREATEST, LEAST}, {-1, 1}, {LEAST, LEAST}, {0, LEAST}};
        for (int[] pair : pairs) {
            int x = pair[0];
            int y = pair[1];
            dueRun("!x<y;", x, y, x < y ? 0 : 2, 0, 0);
            dueRun("!x>y;", x, y, x > y ? 0 : 2, 0, 0);
            dueRun("!x=y;", x, y, x == y ? 0 : 2, 0, 0);
            dueRun("!x#y;", x, y, x != y ? 0 : 2, 0, 0);
        }
    }

    private static void decisions() {
        sentence("the right side of & is worked out only if the left one holds");
        dueRun("!x<1&1/x=1;", 1, 0, 2, 0, 0);
        dueRun("!x<1&1/x=1;", 0, 0, 1, 0, 0);
        dueRun("!x<1&y<1&1/x=1;", 0, 1, 2, 0, 0);
        dueRun("!x<1&[y<1|1/x=1];", 1, 1, 2, 0, 0);
        dueRun("!x<1&[y<1|1/x=1];", 0, 1, 1, 0, 0);

        sentence("of | only if it does not");
        dueRun("!x<1|1/x=1;", 0, 0, 0, 0, 0);
        dueRun("!x<1|1/x=1;", 1, 0, 0, 0, 0);
        dueRun("!x<1|1/x=1;", 2, 0, 2, 0, 0);
        dueRun("!y<1|1/x=1;", 0, 1, 1, 0, 0);
        dueRun("!x<1|y<1|1/x=1;", 0, 1, 0, 0, 0);

        sentence("From left to right");
        dueRun("!1/x=1&y<1;", 0, 1, 1, 0, 0);
        dueRun("!1/x=1|y<1;", 0, 0, 1, 0, 0);
    }

    private static MutantTester fuelled(String text, int fuel) {
        MutantTester t = compiled(text);
        t.fuel(fuel);
        return t;
    }

    private static void fuel() {
        String loop = "@a<x{a=a+1;}^a+7;";
        sentence("A while costs one FUEL for each time that its row begins");
        dueRun(loop, 0, 0, 0, 7, 0);
        dueRun(loop, 1, 0, 0, 8, 1);
        dueRun(loop, 5, 0, 0, 12, 5);
        dueRun("@x<1{^9;}", 0, 0, 0, 9, 1);
        dueRun("@x<1{}", 0, 0, 3, 0, 20);
        dueRun("@a<4{a=a+1;b=0;@b<4{b=b+1;}}^a*b;", 0, 0, 0, 16, 20);
        dueRun("?x<1{a=1;}{a=2;}^a;", 0, 0, 0, 1, 0);

        sentence("where none is left then the run is TIRED (all the fuel was taken");
        dueRun(fuelled(loop, 3), loop, 0, 4, 0, 3, 0, 3);
        dueRun(fuelled(loop, 1), loop, 0, 2, 0, 3, 0, 1);
        dueRun(fuelled(loop, 50), loop, 0, 51, 0, 3, 0, 50);
        dueRun(loop, 21, 0, 3, 0, 20);
        dueRun("@a<4{a=a+1;b=0;@b<5{b=b+1;}}^a*b;", 0, 0, 3, 0, 20);
        dueRun("@a<9{a=a+1;}@b<9{b=b+1;}@c<3{c=c+1;}^1;", 0, 0, 3, 0, 20);
        String inner = "@a<1{a=a+1;@b<1{b=b+1;}}^1;";
        dueRun(fuelled(inner, 1), inner, 0, 0, 0, 3, 0, 1);
        dueRun(fuelled(inner, 2), inner, 0, 0, 0, 0, 1, 2);

        sentence("one whose condition does not hold any more goes on)");
        dueRun(fuelled(loop, 3), loop, 0, 3, 0, 0, 10, 3);
        dueRun(fuelled(loop, 1), loop, 0, 1, 0, 0, 8, 1);
        dueRun(fuelled(loop, 50), loop, 0, 50, 0, 0, 57, 50);
        dueRun(loop, 20, 0, 0, 27, 20);
        dueRun("@a<9{a=a+1;}@b<9{b=b+1;}@c<2{c=c+1;}^1;", 0, 0, 0, 1, 20);
        dueRun("@a<20{a=a+1;}@b>0{b=b+1;}^a;", 0, 0, 0, 20, 20);
        dueRun("@a<20{a=a+1;}!a<x;", 0, 0, 2, 0, 20);
        dueRun("@1/(20-a)<2{a=a+1;}", 0, 0, 1, 0, 20);
    }

    private static void outcomes() {
        sentence("A run that comes to its end returns 0");
        dueReturn("", 3, 4, 0);
        dueReturn("a=5;", 3, 4, 0);
        dueReturn("?x<9{a=5;}", 3, 4, 0);
        dueReturn("?x<1{^5;}", 3, 4, 0);
        dueRun("@a<x{a=a+1;}", 3, 4, 0, 0, 3);
        dueReturn("!x<9;", 3, 4, 0);

        sentence("OUTCOMES: 0 returned, with a VALUE; 1 trapped; 2 failed; 3 tired (the value of these three is 0)");
        MutantTester t = compiled("a=9;?x<1{a=1/x;}?x=1{!x>1;}@x=2{a=8;}^a+x;");
        dueRun(t, "returned", 0, 4, 0, 0, 13, 0);
        dueRun(t, "trapped", 0, 0, 0, 1, 0, 0);
        dueRun(t, "returned", 0, 4, 0, 0, 13, 0);
        dueRun(t, "failed", 0, 1, 0, 2, 0, 0);
        dueRun(t, "returned", 0, 4, 0, 0, 13, 0);
        dueRun(t, "tired", 0, 2, 0, 3, 0, 20);
        dueRun(t, "returned", 0, 5, 0, 0, 14, 0);
    }

    private static void dueAll(String text, int[]... all) {
        MutantTester t = typed(text);
        due(all.length, text + " compile", t::compile);
        for (int m = 1; m <= all.length; m++) {
            dueMutant(t, m, all[m - 1][0], all[m - 1][1], all[m - 1][2]);
        }
        due(INDEX, "one more", () -> t.mutant(all.length + 1, 0));
    }

    private static void sites() {
        sentence("SITES are places of the text, in their order; mutants 1, 2, .. (0 is the program itself) are all of the first site, then of the next one, and so on");
        dueAll("?x<9&y#0{a=x*99;}^0;", new int[][] {
            {0, 4, 0}, {2, 1, '>'}, {2, 1, '='}, {2, 1, '#'}, {3, 3, 10}, {3, 3, 8}, {4, 2, '|'}, {6, 1, '<'}, {6, 1, '>'}, {6, 1, '='},
            {7, 3, 1}, {7, 3, -1}, {9, 4, 0}, {12, 0, '+'}, {12, 0, '-'}, {12, 0, '/'}, {12, 0, '%'}, {13, 3, 100}, {13, 3, 98},
            {17, 4, 0}, {18, 3, 1}, {18, 3, -1},
        });
        dueAll("^(1-x)*2;", new int[][] {
            {0, 4, 0}, {2, 3, 2}, {2, 3, 0}, {3, 0, '+'}, {3, 0, '*'}, {3, 0, '/'}, {3, 0, '%'}, {6, 0, '+'}, {6, 0, '-'}, {6, 0, '/'}, {6, 0, '%'}, {7, 3, 3}, {7, 3, 1},
        });
        MutantTester t = compiled("^x+4;");
        int[] values = {7, 0, -1, 12, 0, 3, 8, 6};
        for (int m = 0; m < values.length; m++) {
            dueRun(t, "mutant", m, 3, 0, 0, values[m], 0);
        }
    }

    private static void dueOthers(String text, int first, int site, int kind, String others) {
        MutantTester t = compiled(text);
        for (int i = 0; i < others.length(); i++) {
            dueMutant(t, first + i, site, kind, others.charAt(i));
        }
        due(true, "the next one is of another site", () -> !Integer.valueOf(site).equals(answer(() -> t.mutant(first + others.length(), 0))));
    }

    private static void operators() {
        sentence("KIND 0, one of + - * / %: each of the other four in its place, in this order");
        dueOthers("^x+y;", 2, 2, 0, "-*/%");
        dueOthers("^x-y;", 2, 2, 0, "+*/%");
        dueOthers("^x*y;", 2, 2, 0, "+-/%");
        dueOthers("^x/y;", 2, 2, 0, "+-*%");
        dueOthers("^x%y;", 2, 2, 0, "+-*/");
        dueValues("^x+y;", 2, 17, 5, 12, 85, 3, 2);
        dueValues("^x%y;", 2, 17, 5, 22, 12, 85, 3);

        sentence("Kind 1, one of < > = #: each of the other three, in this order");
        dueOthers("!x<y;", 2, 2, 1, ">=#");
        dueOthers("!x>y;", 2, 2, 1, "<=#");
        dueOthers("!x=y;", 2, 2, 1, "<>#");
        dueOthers("!x#y;", 2, 2, 1, "<>=");
        MutantTester t = compiled("!x<y;");
        dueRun(t, "x > y", 2, 2, 1, 0, 0, 0);
        dueRun(t, "x = y", 3, 2, 2, 0, 0, 0);
        dueRun(t, "x # y", 4, 2, 2, 2, 0, 0);

        sentence("Kind 2, & or |: the other one");
        dueOthers("!x<1&y<1;", 7, 4, 2, "|");
        dueOthers("!x<1|y<1;", 7, 4, 2, "&");
        MutantTester and = compiled("!x=0&1/y=0;");
        dueRun(and, "with &", 0, 0, 0, 1, 0, 0);
        dueRun(and, "with |", 7, 0, 0, 0, 0, 0);
        dueRun(and, "with &", 0, 1, 0, 2, 0, 0);
        dueRun(and, "with |", 7, 1, 0, 1, 0, 0);

        sentence("(In all these the tree of the program stays as it is.)");
        dueValues("^x+y*2;", 2, 10, 3, 10 - 6, 10 * 6, 10 / 6, 10 % 6);
        dueValues("^x*2+y;", 2, 10, 3, 12 + 3, 8 + 3, 5 + 3, 0 + 3);
        dueValues("^x-y-1;", 6, 10, 3, 7 + 1, 7 * 1, 7 / 1, 7 % 1);
        dueValues("^x-y*2;", 6, 10, 3, 10 - (3 + 2), 10 - (3 - 2), 10 - 3 / 2, 10 - 3 % 2);
        MutantTester or = compiled("!x=0&y=0&a=1;");
        dueRun(or, "[x=0 | y=0] & a=1", 7, 0, 0, 2, 0, 0);
    }

    /** The values of the mutants from this one on. */
    private static void dueValues(String text, int first, int x, int y, int... values) {
        MutantTester t = compiled(text);
        for (int i = 0; i < values.length; i++) {
            dueRun(t, text + " mutant", first + i, x, y, 0, values[i], 0);
        }
    }

    private static void constantsAndStatements() {
        sentence("Kind 3, a constant (its first digit is the site): 1 more, then 1 less (100 of 99, -1 of 0)");
        int[] constants = {0, 1, 8, 9, 10, 11, 50, 98, 99};
        for (int constant : constants) {
            dueAll("^" + constant + ";", new int[][] {{0, 4, 0}, {1, 3, constant + 1}, {1, 3, constant - 1}});
            dueValues("^" + constant + ";", 2, 0, 0, constant + 1, constant - 1);
        }
        dueAll("^10+20;", new int[][] {
            {0, 4, 0}, {1, 3, 11}, {1, 3, 9}, {3, 0, '-'}, {3, 0, '*'}, {3, 0, '/'}, {3, 0, '%'}, {4, 3, 21}, {4, 3, 19},
        });

        sentence("Kind 4, a statement (its first character is the site): it is left out");
        dueAll("?x<y{@a<x{a=y;}}{!x>y;}", new int[][] {
            {0, 4, 0}, {2, 1, '>'}, {2, 1, '='}, {2, 1, '#'}, {5, 4, 0}, {7, 1, '>'}, {7, 1, '='}, {7, 1, '#'}, {10, 4, 0}, {17, 4, 0},
            {19, 1, '<'}, {19, 1, '='}, {19, 1, '#'},
        });
        dueValues("a=x;a=y;^a;", 1, 5, 6, 6, 5, 0);
        dueValues("?x<9{a=3;}{a=4;}^a+5;", 1, 0, 0, 5);
        dueValues("!x>9;^5;", 1, 0, 0, 5);
        dueValues("@x<9{a=3;}^a+5;", 1, 0, 0, 5);
        dueRun(compiled("@a<3{a=a+1;}^a;"), "its row is empty then", 7, 0, 0, 3, 0, 20);
        dueRun(compiled("@a<3{@b<3{b=b+1;a=b;}}^a;"), "the @ in the @", 7, 0, 0, 3, 0, 20);
        dueValues("?x<9{^3;}{^4;}^5;", 7, 0, 0, 5);
        dueValues("?x<9{^3;}{^4;}^5;", 10, 9, 0, 5);
    }

    private static void reached() {
        sentence("A mutant's site is REACHED by a run of the program itself when the operator is applied (its operands were worked out");
        dueReached(tested("^x+y*2;", 0, 0), 0, 0, 2, 4, 5);
        dueReached(tested("^1/x+2;", 0, 0), 0, 0, 1, 2);
        dueReached(tested("^2*(1/x);", 0, 0), 0, 0, 1, 4, 5);
        dueReached(tested("!1/x<2;", 0, 0), 0, 0, 1, 2);
        dueReached(tested("!2<1/x;", 0, 0), 0, 0, 1, 3, 4);
        dueReached(tested("!1/x<2;", 1, 0), 0, 0, 1, 2, 4, 5);

        sentence("also if it traps then");
        dueReached(tested("^x/y;", 1, 0), 0, 0, 2);
        dueReached(tested("^x%y;", 1, 0), 0, 0, 2);

        sentence("for kind 2 when the left side was)");
        MutantTester and = tested("!x<1&y<1;", 0, 0, 1, 0);
        dueReached(and, 0, 0, 2, 3, 4, 6, 7);
        dueReached(and, 1, 0, 2, 3, 4);
        MutantTester or = tested("!x<1|y<1;", 0, 0, 1, 0);
        dueReached(or, 0, 0, 2, 3, 4);
        dueReached(or, 1, 0, 2, 3, 4, 6, 7);
        dueReached(tested("!1/x<1&y<1;", 0, 0), 0, 0, 1, 2);
        dueReached(tested("!x<1&1/x=y;", 0, 0), 0, 0, 2, 3, 4, 5, 6);

        sentence("the constant is worked out");
        dueReached(tested("^x*1+2;", 0, 0), 0, 0, 2, 3, 4, 5);
        dueReached(tested("^1/x*2;", 0, 0), 0, 0, 1, 2);
        dueReached(tested("?x<1{a=2;}{a=3;}", 1, 0), 0, 0, 2, 3, 11, 13);

        sentence("or the statement begins");
        dueReached(tested("^1;^2;@0<1{}", 0, 0), 0, 0, 1);
        dueReached(tested("a=x/y;b=x;", 0, 0), 0, 0, 3);
        dueReached(tested("!x>y;b=x;", 0, 0), 0, 0, 2);
        dueReached(tested("@0<1{a=2;}^3;", 0, 0), 0, 0, 1, 2, 3, 5, 7);
        dueReached(tested("@0>1{a=2;}^3;", 0, 0), 0, 0, 1, 2, 3, 10, 11);
        MutantTester tired = compiled("@a<1{a=1;@b<1{b=2;}}^3;");
        tired.fuel(1);
        tired.test(0, 0);
        tired.matrix();
        dueReached(tired, 0, 0, 2, 3, 5, 7, 9, 11, 12);
        MutantTester both = tested("?x<1&y>2{a=3;}{b=4/y;}!x#5;^6;", 0, 5, 0, 0, 1, 2, 5, 1);
        dueReached(both, 0, 0, 2, 3, 4, 6, 7, 9, 11, 22, 24, 25, 27, 28);
        dueReached(both, 1, 0, 2, 3, 4, 6, 7, 15, 17, 18);
        dueReached(both, 2, 0, 2, 3, 4, 15, 17, 18, 22, 24, 25, 27, 28);
        dueReached(both, 3, 0, 2, 3, 4, 15, 17, 18, 22, 24, 25);

        sentence("by a run of the program itself: not by that of a mutant");
        MutantTester own = tested("?x<1{^1+1;}", 1, 0);
        dueReached(own, 0, 0, 2, 3);
        due(true, "though with x = 1 in its place it comes there", () -> own.killed(3, 0));
    }

    private static void foldedNumbers() {
        sentence("FOLDED, a program is changed from the inside to the outside");
        dueFoldedAway("a=a+(1-1);", "a=a*(7/7);", "a=(8-7)*a/(2-1)+(0-0);", "a=a+0-0+0;", "a=a*((3-2)*(5-4));", "!1<2&[3<4|5<4];", "?1<2{?2<1{}{a=a*1;}}",
            "?1<2{?1<2{?1<2{?1<2{a=a;}}}}", "@1<2&2<1{?x<1{}}");

        sentence("+ - * / % of two constants become one");
        dueFoldedAway("!5+2=7;", "!5-2=3;", "!5*2=10;", "!5/2=2;", "!5%2=1;", "!0/5=0;", "!0%5=0;", "!2-5+3=0;", "!0-7/2=0-3;", "!(0-7)/2=0-3;", "!(0-7)%2=0-1;");
        // 7/2 is 3: left out; 8/2, 6/2; 7+2, 7-2, 7*2, 7%2; 7/3, 7/1.
        dueClasses("^7/2;", 1, 2, 0, 4, 5, 6, 7, 8, 9);
        dueClasses("^5;", 1, 2, 3);

        sentence("(if that does not trap)");
        dueStays("a=a+0/0;", "a=a+1/0;", "a=a+0%0;", "a=a*(1%0);", "a=a/0;", "a=a%0;", "!1/0=1/0;", "!0/0=0;", "!5/(3-3)=0;", "!5%(3-3)#0|1<2;", "?1/0<1{a=a;}", "@1%0<1{}");
        // 4/0 stays: left out; 5/0, 3/0; 4+0, 4-0, 4*0, 4%0; 4/1, 4/-1.
        dueClasses("^4/0;", 1, 2, 3, 4, 4, 6, 7, 4, 9);

        sentence("E + 0, 0 + E, E - 0, E * 1, 1 * E, E / 1 become E");
        dueFoldedAway("a=a+0;", "a=0+a;", "a=a-0;", "a=a*1;", "a=1*a;", "a=a/1;");
        // x+0: left out; x-0, x*0, x/0, x%0; x+1, x+-1.
        dueClasses("^x+0;", 1, 0, 3, 4, 5, 6, 7);
        // 0+x: left out; 1+x, -1+x; 0-x, 0*x, 0/x, 0%x.
        dueClasses("^0+x;", 1, 2, 3, 4, 5, 6, 7);
        // x*1: left out; x+1, x-1, x/1, x%1; x*2, x*0.
        dueClasses("^x*1;", 1, 2, 3, 0, 5, 6, 7);
        // 1*x: left out; 2*x, 0*x; 1+x, 1-x, 1/x, 1%x.
        dueClasses("^1*x;", 1, 2, 3, 4, 5, 6, 7);
        // x+1: left out; x-1, x*1, x/1, x%1; x+2, x+0.
        dueClasses("^x+1;", 1, 2, 3, 3, 5, 6, 3);
        // 1+x: left out; 2+x, 0+x; 1-x, 1*x, 1/x, 1%x.
        dueClasses("^1+x;", 1, 2, 3, 4, 3, 6, 7);
        // x*y+0: left out; x+y, x-y, x/y, x%y; x*y-0, (x*y)*0, (x*y)/0, (x*y)%0; x*y+1, x*y+-1.
        dueClasses("^x*y+0;", 1, 2, 3, 4, 5, 0, 7, 8, 9, 10, 11);
        // What may trap is no other E: 1/0+0 is 1/0, so is 1/0-0.
        dueClass(0, "^1/0+0;", 10);
    }

    private static void foldedConditions() {
        sentence("a comparison of two constants becomes TRUE or FALSE");
        dueFoldedAway("!1<2;", "!2>1;", "!1=1;", "!1#2;", "!0-1<0;", "@2<1{a=1;}", "@1>2{}", "@1=2{}", "@1#1{}", "@1<1{}", "@1>1{}");
        dueStays("!x<1;", "!1<x;", "!x=x;", "!1<1;", "!a<b;", "@x<x{}", "@1<1+x{}");
        // Left out; 2<2, 0<2; 1>2, 1=2, 1#2; 1<3, 1<1.
        dueClasses("!1<2;", 0, 2, 0, 2, 2, 0, 0, 2);
        // Left out; x>1, x=1, x#1; x<2, x<0: each is one of its own, and so it is with the constant on the left.
        dueClasses("!x<1;", 1, 2, 3, 4, 5, 6);
        dueClasses("!1<x;", 1, 2, 3, 4, 5, 6);

        sentence("TRUE & C and FALSE | C become C");
        dueSame("!1<2&x<y;", "!x<y;");
        dueSame("!2<1|x<y;", "!x<y;");

        sentence("FALSE & C FALSE");
        dueFoldedAway("@2<1&x<y{}", "!2<1&x<y|1<2;", "@2<1&1/0=0{}");
        dueSame("!2<1&x<y;", "!2<1;");

        sentence("TRUE | C TRUE");
        dueFoldedAway("!1<2|x<y;", "!1<2|1/0=0;", "@[1<2|x<y]&2<1{}");

        sentence("C & TRUE and C | FALSE C");
        dueSame("!x<y&1<2;", "!x<y;");
        dueSame("!x<y|2<1;", "!x<y;");
    }

    private static void foldedStatements() {
        sentence("? with TRUE or FALSE becomes the statements of the row that is taken");
        dueSame("?1<2{a=x;}{a=y;}", "a=x;");
        dueSame("?2<1{a=x;}{a=y;}", "a=y;");
        dueFoldedAway("?1<2{}", "?2<1{}", "?1<2{a=a;}", "?2<1{a=1;}", "?1<2{}{a=1;}", "?2<1{a=1;}{!1<2;}");
        dueStays("?1<2{a=1;}", "?2<1{}{a=1;}", "?x<1{}", "?x<1{}{}");
        dueStays("?1<2{a=x;b=y;a=a;}", 5);
        dueStays("?1<2{a=x;b=y;a=a;}", 9);
        dueFoldedAway("?1<2{a=x;b=y;a=a;}", 13);
        dueFoldedAway("?2<1{a=x;b=y;}{c=x;}", 5);
        dueFoldedAway("?2<1{a=x;b=y;}{c=x;}", 9);
        dueStays("?2<1{a=x;b=y;}{c=x;}", 15);

        sentence("@ with FALSE, ! with TRUE and v=v; become none");
        dueFoldedAway("@2<1{a=1;}", "@2<1{}", "!1<2;", "a=a;", "f=f;", "a=(a);", "a=((a));");
        dueStays("a=b;", "a=x;", "b=a;", "a=0;");
        dueFoldedAway("@x<1{a=a;}", 5);
        dueStays("@x<1{a=b;}", 5);
        dueFoldedAway("?x<1{}{!1<2;}", 7);

        sentence("statements behind a ^ in one row");
        dueStays("^1;a=2;", 0);
        dueFoldedAway("^1;a=2;", 3);
        dueClass(0, "^1;a=2;", 5);
        dueClass(0, "^1;a=2;", 6);
        dueFoldedAway("^1;^2;", 3);
        dueFoldedAway("^1;!x<y;", 3);
        dueFoldedAway("^1;?x<1{^3;}{^2;}", 3);
        dueFoldedAway("^1;@x<1{}b=x;", 3);
        dueFoldedAway("^1;@x<1{}b=x;", 9);
        dueFoldedAway("?x<1{^1;a=2;}", 8);
        dueFoldedAway("?x<1{}{^1;a=2;}", 10);
        dueFoldedAway("@x<1{^1;a=2;}", 8);
        dueStays("a=2;^1;", 0);
        dueStays("a=2;^1;", 4);

        sentence("(also where it came there of a ?) are left out");
        dueFoldedAway("?1<2{^1;}^2;", 9);
        dueFoldedAway("?2<1{}{^1;}^2;", 11);
        dueFoldedAway("?1<2{?1<2{^1;}}a=1;^2;", 15);
        dueFoldedAway("?1<2{?1<2{^1;}}a=1;^2;", 19);
        dueFoldedAway("?x<1{?1<2{^1;}a=2;}", 14);
        dueFoldedAway("?1<2{?1<2{^1;}a=2;}", 14);
        dueStays("?1<2{^1;}^2;", 0);
        dueStays("?1<2{^1;}^2;", 5);
        dueStays("?2<1{^1;}^2;", 9);
        dueStays("?1<2{}{^1;}^2;", 11);

        sentence("in one row: not behind a row that has a ^");
        dueStays("?x<1{^1;}^2;", 9);
        dueStays("?x<1{}{^1;}^2;", 11);
        dueStays("?x<1{^1;}{^2;}^3;", 14);
        dueStays("?x<1{^1;}{^2;}^3;", 10);
        dueStays("@x<1{^1;}^2;", 9);
        dueStays("@1<2{^1;}^2;", 9);

        sentence("in one row: nor in a row within other rows, however many statements stand ahead");
        for (int n = 0; n < 6; n++) {
            String ahead = "?x<x{^x;}" + "a=x;".repeat(n);
            dueStays(ahead + "?x<x{b=x;}", ahead.length() + 5);
            dueStays(ahead + "?x<x{?x<x{b=x;}}", ahead.length() + 10);
            dueStays(ahead + "?x<x{}{?x<x{b=x;}}", ahead.length() + 12);
            dueStays(ahead + "?x<x{?x<x{?x<x{b=x;}}}", ahead.length() + 15);
        }
    }

    private static void equalTrees() {
        sentence("Constants may be any ints then, also of mutants");
        // 99+1: left out; 100+1, 98+1; 98, 99, 99, 0; 99+2, 99+0.
        dueClasses("^99+1;", 1, 2, 3, 4, 3, 3, 7, 2, 3);
        // 0-1: left out; 1-1, -1-1; 0+1, 0*1, 0/1, 0%1; 0-2, 0-0.
        dueClasses("^0-1;", 1, 2, 3, 4, 2, 2, 2, 3, 2);
        dueFoldedAway("!98+1=99;", "!99+1=10*10;", "!0-1=0-1;", "!0-1<0;", "!9*9*9*9*9*9*9*9*9*9<0;", "!8*8*8*8*8*8*8*8*8*8*2<0;",
            "!8*8*8*8*8*8*8*8*8*8*4=0;", "!8*8*8*8*8*8*8*8*8*8*2/(0-1)<0;", "a=a+8*8*8*8*8*8*8*8*8*8*2%(0-1);");

        sentence("equal trees are equal programs, whatever brackets were written");
        dueSame("a=x+1;", "a=(x+1);");
        dueSame("a=x-y-1;", "a=((x-y)-1);");
        dueSame("a=x+y*2;", "a=x+(y*(2));");
        dueSame("!x<1&y<1|a<1;", "![[x<1]&[y<1]]|(a)<1;");
        dueOther("a=x+y+1;", "a=x+(y+1);");
        dueOther("a=x+y;", "a=y+x;");
        dueOther("!x<y;", "!y>x;");
        dueOther("!x<1&y<1;", "!y<1&x<1;");
        dueOther("!x<1&y<1;", "!x<1&a<1;");
        dueOther("!x<1|y<1;", "!x<1&y<1;");
        dueOther("!x<y;", "!x<a;");
        dueOther("a=x;", "b=x;");
        dueOther("?x<1{a=1;}", "@x<1{a=1;}");
        dueOther("?x<1{a=1;}{a=2;}", "?x<1{a=2;}{a=1;}");
        dueOther("?x<1{a=1;}a=2;", "?x<1{a=1;a=2;}");

        sentence("? without an else is as one with an else row that is empty");
        dueSame("?x<1{a=1;}", "?x<1{a=1;}{}");
        dueSame("?x<1{}", "?x<1{}{a=a;}");
        dueOther("?x<1{a=1;}", "?x<1{}{a=1;}");
    }

    private static void stays() {
        sentence("All else stays: 0 - E");
        dueStays("a=0-a;");
        dueOther("a=0-x;", "a=x;");

        sentence("All else stays: E * 0");
        dueOther("a=x*0;", "a=0;");
        dueOther("a=0*x;", "a=0;");
        dueOther("a=x*0;", "a=0*x;");

        sentence("All else stays: x - x");
        dueStays("a=a-a;", "!x-x=0;");
        dueOther("b=x-x;", "b=0;");

        sentence("All else stays: C & FALSE");
        dueStays("@x<1&2<1{}", "!x<1&2<1;");
        dueOther("!x<1&2<1;", "!2<1;");
        dueOther("!x<1&2<1;", "!x<1;");

        sentence("All else stays: C | TRUE");
        dueStays("!x<1|1<2;", "?x<1|1<2{}");
        dueOther("?x<1|1<2{a=1;}", "a=1;");
        dueOther("!x<1|1<2;", "!x<1;");

        sentence("All else stays: @ with TRUE");
        dueStays("@1<2{}", "@1<2{^1;}");
        dueOther("@1<2{a=1;}", "a=1;");
        dueStays("@1<2{}a=1;", 6);

        sentence("All else stays: ! with FALSE");
        dueStays("!1>2;", "!1<1;");
        dueClass(0, "!2<1;^9;", 3);
        dueStays("!2<1;^9;", 5);

        sentence("All else stays: ? with two empty rows");
        dueStays("?x<1{}", "?x<1{}{}", "?x<1{a=a;}{!1<2;}");

        sentence("All else stays.");
        dueStays("a=a%1;", "a=1/a;", "a=1%a;", "a=1-a;", "a=a/a;", "a=a+a;", "a=a+1-1;", "a=1+a-1;", "a=0/a;", "!x=x;", "!x<1|x<1;", "a=1;a=1;", "^0;", "^a;");
        dueOther("a=x%1;", "a=0;");
        dueOther("a=x/x;", "a=1;");
        dueOther("a=x%x;", "a=0;");
        dueOther("a=0/x;", "a=0;");
        dueOther("a=0%x;", "a=0;");
        dueOther("a=x+1+1;", "a=x+2;");
        dueOther("a=x*2;", "a=x+x;");
        dueOther("!x#x;", "!2<1;");
        dueOther("!x<1&x<1;", "!x<1;");
        dueOther("?x<1{a=1;}{a=1;}", "a=1;");

        sentence("C & FALSE & D is [C & FALSE] & D, from left to right as + is, and stays");
        dueOther("!x<1&2<1&y<1;", "!x<1&2<1;");
    }

    private static void classes() {
        sentence("Mutants of which the folded programs are equal are of one CLASS");
        // 1+1: left out; 2+1, 0+1; 0, 1, 1, 0; 1+2, 1+0.
        dueClasses("^1+1;", 1, 2, 3, 4, 3, 3, 4, 2, 3);
        sentence("and so is the program itself");
        // x-0: left out; x+0, x*0, x/0, x%0; x-1, x--1.
        dueClasses("^x-0;", 1, 0, 3, 4, 5, 6, 7);
        dueClasses("a=a;", 0);
        sentence("it is named by the least number");
        dueClasses("a=x;a=x;a=x;", 1, 1, 1);
        dueClasses("a=a;a=x;b=b;a=x;", 0, 2, 0, 2);
        dueClasses("a=x;".repeat(15), 1, 1, 1, 1, 1, 1, 1, 1, 1, 1, 1, 1, 1, 1, 1);
    }

    private static void killed() {
        sentence("A mutant is KILLED by a test if its outcome");
        MutantTester failed = tested("!x<5;^0;", 9, 0);
        due(true, "0 returned in place of failed", () -> failed.killed(1, 0));
        MutantTester trapped = tested("^0/x;", 0, 0);
        due(true, "0 returned in place of trapped", () -> trapped.killed(1, 0));
        MutantTester tired = tested("@0<1{}", 0, 0);
        due(true, "0 returned in place of tired", () -> tired.killed(1, 0));
        MutantTester other = tested("!x<5;!1/(x-9)<5;", 9, 0);
        due(true, "trapped in place of failed", () -> other.killed(1, 0));

        sentence("or the value returned, is another one than that of the program itself");
        MutantTester value = tested("^x+y;", 3, 0, 2, 2);
        due(false, "3 - 0", () -> value.killed(2, 0));
        due(true, "2 - 2", () -> value.killed(2, 1));
        due(true, "3 * 0", () -> value.killed(3, 0));
        due(false, "2 * 2", () -> value.killed(3, 1));
        MutantTester took = tested("@a<3{a=a+1;b=9;}^b;", 0, 0);
        due(true, "it is reached", () -> took.reached(5, 0));
        due(false, "a < 4 takes 4 in place of 3, but returns the same", () -> took.killed(5, 0));
        due(true, "it is of another class", () -> took.mutant(5, 3) == 5);
    }
}
