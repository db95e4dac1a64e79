/** The promises 1 to 14 of the document, a test for each of their sentences; every answer worked out by hand. */
public final class PromiseTests extends SentenceTests {
    private static final int[] NO_MUTANTS = {-1, 17, 120, 121, GREATEST, LEAST};
    /** 16 mutants: 1 @, 2-4 >, 5 a=a+1, 6-9 +, 10-11 1, 12 ^, 13-16 *. */
    private static final String LOOP = "@x>a{a=a+1;}^a*y;";

    public static void main(String[] args) {
        part(PromiseTests::promise1);
        part(PromiseTests::promise2);
        part(PromiseTests::promise3);
        part(PromiseTests::promise4);
        part(PromiseTests::promise4Limit);
        part(PromiseTests::promise4Throws);
        part(PromiseTests::promise5);
        part(PromiseTests::promise6);
        part(PromiseTests::promise7);
        part(PromiseTests::promise8);
        part(PromiseTests::promises9And10);
        part(PromiseTests::promise11);
        part(PromiseTests::promise12);
        part(PromiseTests::promise13);
        part(PromiseTests::promise14);
        finish();
    }

    private interface Refused {
        Object by(MutantTester t);
    }

    /** An object that is used already, and a new one, are as they were when such calls were refused. */
    private static void dueAsItWas(Object want, Refused... calls) {
        String text = "@a<x{a=a+9;}^a;";
        MutantTester used = compiled(text);
        used.fuel(3);
        used.test(20, 0);
        used.test(1, 0);
        used.matrix();
        used.run(0, 10, 0);
        String before = seenOf(used);
        MutantTester fresh = typed("^x");
        for (Refused call : calls) {
            due(want, "refused", () -> call.by(used));
            due(STATE, "refused by a new one", () -> call.by(fresh));
        }
        due(before, "all that was there", () -> seenOf(used));
        dueRun(used, "the fuel", 0, 28, 0, 3, 0, 3);
        due(2, "the next test", () -> used.test(0, 0));
        due(text.length() + 1, "the text", () -> used.type(';'));
        due(STATE, "nothing is compiled", () -> fresh.run(0, 0, 0));
        due(0, "value", fresh::value);
        due(0, "took", fresh::took);
        due(3, "the text", () -> fresh.type(';'));
        due(1, "compile of it", fresh::compile);
        due(0, "the first test", () -> fresh.test(1, 1));
    }

    private static void promise1() {
        sentence("1: An empty text");
        due(0, "compile", () -> new MutantTester().compile());
        due(1, "the first character", () -> new MutantTester().type('@'));

        sentence("1: nothing compiled");
        MutantTester t = new MutantTester();
        due(STATE, "mutant", () -> t.mutant(1, 0));
        due(STATE, "test", () -> t.test(0, 0));
        due(STATE, "run", () -> t.run(0, 0, 0));
        due(STATE, "matrix", t::matrix);
        due(STATE, "killed", () -> t.killed(1, 0));
        due(STATE, "reached", () -> t.reached(1, 0));
        due(STATE, "score", () -> t.score(0));
        due(0, "value", t::value);
        due(0, "took", t::took);

        sentence("1: no tests");
        due(0, "the first test", () -> compiled("^x;").test(0, 0));

        sentence("1: the fuel is 20");
        dueRun("@0<1{}", 0, 0, 3, 0, 20);
        dueRun("@a<20{a=a+1;}^a;", 0, 0, 0, 20, 20);
        dueRun("@a<21{a=a+1;}^a;", 0, 0, 3, 0, 20);

        sentence("1: of each new object: what another one holds is not there");
        MutantTester other = tested("@a<x{a=a+1;}^a;", 3, 0);
        other.fuel(5);
        other.run(0, 3, 0);
        MutantTester fresh = new MutantTester();
        due(STATE, "nothing is compiled", () -> fresh.run(0, 0, 0));
        due(0, "value", fresh::value);
        due(0, "compile", fresh::compile);
        due(0, "test", () -> fresh.test(1, 1));
        due(3, "value of the other one", other::value);
    }

    private static void promise2() {
        sentence("2: Appends a character: how many there are");
        MutantTester t = new MutantTester();
        for (int i = 1; i <= 60; i++) {
            char c = (char) (31 + i);
            due(i, "type " + (int) c, () -> t.type(c));
        }
        MutantTester rest = new MutantTester();
        for (int i = 1; i <= 35; i++) {
            char c = (char) (91 + i);
            due(i, "type " + (int) c, () -> rest.type(c));
        }
        MutantTester behind = typed("^x");
        due(3, "behind what is there", () -> behind.type(';'));

        sentence("2: -1, refused, if it is not 32 .. 126");
        MutantTester edge = new MutantTester();
        for (int c : new int[] {31, 127, 0, 9, 10, 128, 160, 233, 255, 256, 32 + 256, 'a' + 65536 / 2, 65535}) {
            due(-1, "type " + c, () -> edge.type((char) c));
        }
        due(0, "what was refused is not there", edge::compile);
        due(1, "32", () -> edge.type((char) 32));
        due(2, "126", () -> edge.type((char) 126));
        due(-1, "127", () -> edge.type((char) 127));
        due(-1, "31", () -> edge.type((char) 31));
        due(3, "the third", () -> edge.type('x'));

        sentence("2: or 60 are there");
        MutantTester full = typed("a=x;".repeat(14) + "a=x");
        due(60, "character 60", () -> full.type(';'));
        due(-1, "character 61", () -> full.type('x'));
        due(-1, "again", () -> full.type(';'));
        due(-1, "31", () -> full.type((char) 31));
        due(15, "compile of 60", full::compile);
        full.wipe();
        due(1, "when it is empty again", () -> full.type('x'));

        sentence("2: what is compiled stays as it was");
        MutantTester kept = tested(LOOP, 1, 1);
        kept.run(0, 3, 5);
        String before = seenOf(kept);
        kept.type('a');
        kept.type((char) 7);
        due(before, "all", () -> seenOf(kept));
        dueRun(kept, "what was compiled", 0, 4, 6, 0, 24, 4);
    }

    private static void promise3() {
        sentence("3: The text becomes empty");
        MutantTester t = typed("^x+4;");
        t.wipe();
        due(0, "compile", t::compile);
        due(1, "the first character", () -> t.type('^'));
        t.wipe();
        t.wipe();
        due(1, "of an empty one too", () -> t.type('^'));
        MutantTester shorter = compiled("a=x;^y;");
        write(shorter, "a=x");
        due(ARGUMENT, "the ; that stood behind it is not there", shorter::compile);
        shorter.type(';');
        due(1, "nor the ^y;", shorter::compile);

        sentence("3: (what is compiled stays)");
        MutantTester kept = compiled(LOOP);
        kept.fuel(4);
        kept.test(2, 3);
        due(16 - 3, "matrix: a * 1, a / 1 and a + 0 are as the statement left out", kept::matrix);
        kept.run(0, 3, 5);
        String before = seenOf(kept);
        kept.wipe();
        due(before, "all", () -> seenOf(kept));
        due(13, "matrix", kept::matrix);
        dueRun(kept, "what was compiled", 0, 4, 6, 0, 24, 4);
        dueRun(kept, "the fuel", 0, 5, 6, 3, 0, 4);
        due(1, "the next test", () -> kept.test(0, 0));
    }

    private static void promise4() {
        sentence("4: The text is compiled: how many mutants");
        dueCount(0, "");
        dueCount(1, "a=x;");
        dueCount(3, "^10;");
        dueCount(5, "^x+y;");
        dueCount(4, "!x<y;");
        dueCount(8, "!x<y&x>y;");
        dueCount(8, "!x<y|x>y;");
        dueCount(4, "?x<y{}");
        dueCount(4, "?x<y{}{}");
        dueCount(5, "?x<y{}{a=x;}");
        dueCount(5, "@x<y{a=x;}");
        dueCount(8, "a=x;^x+99;");
        dueCount(16, LOOP);
        MutantTester again = compiled(LOOP);
        due(16, "the same text again", again::compile);

        sentence("4: What was compiled is gone");
        MutantTester t = compiled(LOOP);
        t.run(0, 3, 5);
        write(t, "^y-1;");
        due(7, "compile", t::compile);
        dueMutant(t, 2, 2, 0, '+');
        due(INDEX, "mutant 8", () -> t.mutant(8, 0));
        due(0, "value", t::value);
        due(0, "took", t::took);
        dueRun(t, "what is compiled now", 0, 9, 5, 0, 4, 0);
        write(t, "");
        due(0, "compile of no text", t::compile);
        due(INDEX, "mutant 1", () -> t.mutant(1, 0));
        due(0, "value", t::value);
        dueRun(t, "no text", 0, 9, 5, 0, 0, 0);
        MutantTester mended = typed("^x+1");
        due(ARGUMENT, "compile", mended::compile);
        mended.type(';');
        due(7, "compile when it is whole", mended::compile);

        sentence("4: the tests and the matrix are gone");
        MutantTester tests = tested("^x+4;", 1, 1, 2, 2);
        due(7, "compile of the same", tests::compile);
        due(STATE, "score", () -> tests.score(0));
        due(STATE, "killed", () -> tests.killed(1, 0));
        due(STATE, "reached", () -> tests.reached(1, 0));
        due(0, "matrix of no tests", tests::matrix);
        due(INDEX, "killed", () -> tests.killed(1, 0));
        due(0, "the first test", () -> tests.test(5, 5));
        due(7, "matrix", tests::matrix);
        due(INDEX, "there is one test", () -> tests.reached(1, 1));

        sentence("4: the fuel stays");
        MutantTester fuelled = new MutantTester();
        fuelled.fuel(9);
        write(fuelled, "@1>0{}");
        fuelled.compile();
        dueRun(fuelled, "first", 0, 0, 0, 3, 0, 9);
        fuelled.compile();
        dueRun(fuelled, "second", 0, 0, 0, 3, 0, 9);

        sentence("4: the classes of what was compiled are gone");
        MutantTester classes = new MutantTester();
        for (int i = 0; i < 40; i++) {
            write(classes, i % 2 == 0 ? "!1<2;" : "^x+0;");
            due(i % 2 == 0 ? 8 : 7, "compile", classes::compile);
            due(i % 2 == 0 ? 0 : 1, "class of 1", () -> classes.mutant(1, 3));
            due(i % 2 == 0 ? 2 : 0, "class of 2", () -> classes.mutant(2, 3));
        }
    }

    private static void promise4Limit() {
        sentence("4: IllegalArgumentException if it is no program");
        dueNoPrograms("a", "a=x", "^123;", " ", "^x; ", "^(((((x)))));", "x".repeat(60), "}", "?x<1{}{}{}");
        due(ARGUMENT, "many mutants, but no program", () -> countOf(sum("^", 29, 0).replace(';', '+')));
        due(ARGUMENT, "no program behind many mutants", () -> countOf(sum("^", 28, 0) + "a"));
        due(ARGUMENT, "a bracket behind many mutants", () -> countOf(sum("^", 28, 0) + "}"));

        sentence("4: 120 mutants are taken");
        String conditions = "!1<1" + "&1<1".repeat(11) + "+1+1+1+1;";
        dueCount(119, sum("^", 3, 26));
        dueCount(120, sum("a=x;^", 7, 20));
        dueCount(120, conditions);
        dueCount(120, conditions.replace('&', '|'));
        MutantTester t = tested(sum("a=x;^", 7, 20), 3, 0);
        dueMutant(t, 120, 56, 0, '%');
        due(INDEX, "mutant 121", () -> t.mutant(121, 0));
        due(INDEX, "run 121", () -> t.run(121, 0, 0));
        dueRun(t, "7 ones and 19 threes, all % 3", 120, 3, 0, 0, (7 + 19 * 3) % 3, 0);
        due(true, "killed", () -> t.killed(120, 0));
        due(true, "reached", () -> t.reached(120, 0));
        due(INDEX, "killed 121", () -> t.killed(121, 0));

        sentence("4: IllegalStateException if it has more than 120 mutants");
        due(STATE, "121", () -> countOf(sum("^", 4, 25)));
        due(STATE, "122", () -> countOf(sum("a=x;^", 8, 19)));
        due(STATE, "174", () -> countOf(sum("^", 29, 0)));
        String more = "a=x;!1<1" + "&1<1".repeat(8) + "+1".repeat(8) + ";";
        due(STATE, "121 with & and <", () -> countOf(more));
        due(STATE, "121 with | and <", () -> countOf(more.replace('&', '|')));
        due(STATE, "123 with & and <", () -> countOf(more.replace('x', '1')));
    }

    private static void promise4Throws() {
        String[] refused = {"^y+1", sum("^", 29, 0)};
        Class<?>[] thrown = {ARGUMENT, STATE};
        for (int i = 0; i < refused.length; i++) {
            String text = refused[i];
            Class<?> due = thrown[i];
            sentence("4: (What throws leaves all as it was.) " + text);
            MutantTester t = compiled(LOOP);
            t.fuel(9);
            t.test(2, 3);
            t.test(0, 1);
            t.matrix();
            t.run(0, 3, 5);
            write(t, text);
            String before = seenOf(t);
            due(due, "compile", t::compile);
            due(before, "what is compiled, the matrix, value and took", () -> seenOf(t));
            due(due, "the same text again", t::compile);
            dueRun(t, "what is compiled", 0, 4, 6, 0, 24, 4);
            dueRun(t, "the fuel", 0, 10, 6, 3, 0, 9);
            due(2, "the next test", () -> t.test(0, 0));

            sentence("4: (What throws leaves all as it was.) nothing compiled, no tests: " + text);
            MutantTester fresh = typed(text);
            due(due, "compile", fresh::compile);
            due(STATE, "run", () -> fresh.run(0, 0, 0));
            due(STATE, "mutant", () -> fresh.mutant(1, 0));
            due(STATE, "test", () -> fresh.test(0, 0));
            due(STATE, "matrix", fresh::matrix);
            due(text.length() + 1, "the text", () -> fresh.type(';'));
            due(text.length() < 10 ? 7 : ARGUMENT, "compile of it", fresh::compile);
        }

        sentence("4: (What throws leaves all as it was.) Eight tests are eight still");
        MutantTester eight = tested("^x;", 0, 0, 1, 1, 2, 2, 3, 3, 4, 4, 5, 5, 6, 6, 7, 7);
        eight.type('x');
        due(ARGUMENT, "compile", eight::compile);
        due(STATE, "the ninth", () -> eight.test(8, 8));
        due(true, "killed by the eighth", () -> eight.killed(1, 7));
        due(false, "killed by the first", () -> eight.killed(1, 0));
    }

    private static void promise5() {
        sentence("5: Of a mutant: its site (what = 0), kind (1), what stands there instead (2");
        MutantTester t = compiled(LOOP);
        dueMutant(t, 1, 0, 4, 0);
        dueMutant(t, 2, 2, 1, '<');
        dueMutant(t, 5, 5, 4, 0);
        dueMutant(t, 9, 8, 0, '%');
        dueMutant(t, 10, 9, 3, 2);
        dueMutant(t, 11, 9, 3, 0);
        dueMutant(t, 12, 12, 4, 0);

        sentence("5: the character, or the constant, or 0 for a statement left out)");
        dueMutant(compiled("^99;"), 2, 1, 3, 100);
        dueMutant(compiled("^0;"), 3, 1, 3, -1);
        dueMutant(compiled("!x<1&y<1;"), 7, 4, 2, '|');
        dueMutant(compiled("!x<1|y<1;"), 7, 4, 2, '&');
        dueMutant(compiled("!x=1;"), 4, 2, 1, '#');
        dueMutant(compiled("a=x;"), 1, 0, 4, 0);

        sentence("5: its class (3)");
        dueClasses("^x+0;", 1, 0, 3, 4, 5, 6, 7);
        dueClasses("^1+1;", 1, 2, 3, 4, 3, 3, 4, 2, 3);

        sentence("5: IllegalStateException if nothing is compiled");
        for (int what = -1; what <= 4; what++) {
            int of = what;
            due(STATE, "what " + what, () -> new MutantTester().mutant(1, of));
        }
        due(STATE, "mutant 0", () -> new MutantTester().mutant(0, 0));
        due(STATE, "typed, but not compiled", () -> typed("^x;").mutant(1, 0));

        sentence("5: IndexOutOfBoundsException if there is no such mutant (from 1 on)");
        due(INDEX, "mutant 0", () -> t.mutant(0, 0));
        due(INDEX, "mutant 0, its class", () -> t.mutant(0, 3));
        for (int m : NO_MUTANTS) {
            due(INDEX, "mutant " + m, () -> t.mutant(m, 0));
            due(INDEX, "mutant " + m + " and no such what", () -> t.mutant(m, 4));
        }
        due(0, "the first one", () -> t.mutant(1, 0));
        due(14, "the last one", () -> t.mutant(16, 0));

        sentence("5: IllegalArgumentException if there is no such what");
        for (int what : new int[] {-1, 4, GREATEST, LEAST}) {
            due(ARGUMENT, "what " + what, () -> t.mutant(1, what));
        }

        sentence("5: what throws leaves all as it was");
        dueAsItWas(INDEX, of -> of.mutant(0, 0), of -> of.mutant(99, 0), of -> of.mutant(-1, 9));
        dueAsItWas(ARGUMENT, of -> of.mutant(1, 4), of -> of.mutant(1, -1));
    }

    private static void promise6() {
        sentence("6: A test, with inputs: its number (0, 1, ..)");
        MutantTester t = compiled("^x-y;");
        for (int i = 0; i < 8; i++) {
            int number = i;
            due(number, "test", () -> t.test(number, 7 - number));
        }
        due(5 * 8, "matrix", t::matrix);
        due(true, "x + y is another one with y = 1", () -> t.killed(2, 6));
        due(false, "but not with y = 0", () -> t.killed(2, 7));
        due(true, "inputs are any ints", () -> tested("^x+y;", LEAST, GREATEST).killed(2, 0));

        sentence("6: There is no matrix then");
        MutantTester more = tested("^x;", 1, 1);
        due(1, "the second", () -> more.test(1, 1));
        due(STATE, "score", () -> more.score(0));
        due(STATE, "killed", () -> more.killed(1, 0));
        due(STATE, "reached", () -> more.reached(1, 0));

        sentence("6: IllegalStateException if nothing is compiled");
        due(STATE, "test", () -> new MutantTester().test(0, 0));
        MutantTester early = typed("^x;");
        due(STATE, "typed, but not compiled", () -> early.test(0, 0));
        due(1, "compile", early::compile);
        due(0, "no test is there", () -> early.test(0, 0));

        sentence("6: or there are eight");
        due(STATE, "the ninth", () -> t.test(1, 2));
        due(STATE, "again", () -> t.test(1, 2));
        due(5, "the matrix stays then", () -> t.score(0));
        due(true, "killed", () -> t.killed(2, 6));
        due(INDEX, "and there is no ninth", () -> t.killed(1, 8));
        due(5 * 8, "matrix", t::matrix);
        t.wipe();
        t.compile();
        due(0, "when what was compiled is gone: the first", () -> t.test(1, 2));

        sentence("6: value and took stay");
        MutantTester kept = compiled(LOOP);
        kept.run(0, 3, 5);
        kept.test(1, 1);
        due(15, "value", kept::value);
        due(3, "took", kept::took);
    }

    private static void promise7() {
        sentence("7: The fuel of each run from now on");
        MutantTester t = compiled("@0<1{a=a+1;}");
        for (int n : new int[] {1, 50, 2, 49, 20, 7}) {
            due(true, "fuel " + n, () -> t.fuel(n));
            dueRun(t, "the program", 0, 0, 0, 3, 0, n);
            dueRun(t, "a mutant", 7, 0, 0, 3, 0, n);
        }
        MutantTester of = compiled("@a<x{a=a+1;}^a;");
        of.test(3, 0);
        of.fuel(2);
        of.matrix();
        due(false, "the ^ is not reached with fuel 2", () -> of.reached(12, 0));
        due(false, "and not killed", () -> of.killed(12, 0));
        of.fuel(3);
        of.matrix();
        due(true, "it is with fuel 3", () -> of.reached(12, 0));
        due(true, "and killed", () -> of.killed(12, 0));

        sentence("7: before anything is compiled too");
        MutantTester early = new MutantTester();
        due(true, "fuel 1", () -> early.fuel(1));
        due(false, "fuel 0", () -> early.fuel(0));
        write(early, "@0<1{}");
        early.compile();
        dueRun(early, "the program", 0, 0, 0, 3, 0, 1);

        sentence("7: there is no matrix then (also if it is the same)");
        for (int n : new int[] {20, 21, 1, 50}) {
            MutantTester one = tested("^x;", 1, 1);
            due(true, "fuel " + n, () -> one.fuel(n));
            due(STATE, "score", () -> one.score(0));
            due(STATE, "killed", () -> one.killed(1, 0));
            due(STATE, "reached", () -> one.reached(1, 0));
            due(1, "the tests stay", () -> one.test(2, 2));
            due(2, "matrix", one::matrix);
        }

        sentence("7: False, refused, if it is not 1 .. 50");
        MutantTester kept = tested(LOOP, 2, 3);
        kept.fuel(3);
        kept.matrix();
        kept.run(0, 3, 5);
        String before = seenOf(kept);
        for (int n : new int[] {0, 51, -1, 100, GREATEST, LEAST}) {
            due(false, "fuel " + n, () -> kept.fuel(n));
        }
        due(before, "the matrix stays, and all else", () -> seenOf(kept));
        dueRun(kept, "the fuel stays", 0, 4, 5, 3, 0, 3);

        sentence("7: value and took stay");
        MutantTester run = compiled(LOOP);
        run.run(0, 3, 5);
        run.fuel(1);
        due(15, "value", run::value);
        due(3, "took", run::took);
    }

    private static void promise8() {
        sentence("8: Runs mutant m (0: the program itself) on inputs: the outcome");
        MutantTester t = compiled("!x<9;^9/x+y;");
        dueRun(t, "returned", 0, 3, 1, 0, 4, 0);
        dueRun(t, "trapped", 0, 0, 1, 1, 0, 0);
        dueRun(t, "failed", 0, 9, 1, 2, 0, 0);
        dueRun(t, "without the !", 1, 9, 1, 0, 2, 0);
        dueRun(compiled("@0<1{}"), "tired", 0, 0, 0, 3, 0, 20);
        MutantTester last = compiled("^x+4;");
        dueRun(last, "the first mutant", 1, 3, 0, 0, 0, 0);
        dueRun(last, "the last mutant", 7, 3, 0, 0, 6, 0);
        dueRun(last, "the program itself as before", 0, 3, 0, 0, 7, 0);
        dueRun(last, "any ints", 0, GREATEST, LEAST, 0, LEAST + 3, 0);

        sentence("8: IllegalStateException if nothing is compiled");
        for (int m : new int[] {0, 1, -1, 121}) {
            due(STATE, "run " + m, () -> new MutantTester().run(m, 0, 0));
            due(STATE, "typed, but not compiled: run " + m, () -> typed("^x;").run(m, 0, 0));
        }

        sentence("8: IndexOutOfBoundsException if there is no such mutant");
        MutantTester loop = tested(LOOP, 2, 3);
        loop.run(0, 3, 5);
        String before = seenOf(loop);
        for (int m : NO_MUTANTS) {
            due(INDEX, "run " + m, () -> loop.run(m, 0, 0));
        }
        due(before, "all", () -> seenOf(loop));
        due(1, "the last one, 0 % 0", () -> loop.run(16, 0, 0));
        dueAsItWas(INDEX, of -> of.run(99, 4, 4), of -> of.run(-1, 4, 4));

        sentence("8: the matrix and the tests stay");
        MutantTester kept = tested("^x+4;", 1, 1);
        kept.run(1, 3, 3);
        due(7, "score", () -> kept.score(0));
        due(true, "killed", () -> kept.killed(1, 0));
        due(true, "reached", () -> kept.reached(7, 0));
        due(1, "the next test", () -> kept.test(0, 0));
    }

    private static void promises9And10() {
        String text = "@a<x{a=a+1;}!x<9;^y/x;";
        sentence("9: The value of the latest run() of what is compiled");
        MutantTester t = compiled(text);
        t.run(0, 2, 8);
        due(4, "value", t::value);
        due(4, "again", t::value);
        t.run(0, 2, LEAST);
        due(LEAST / 2, "value of the latest", t::value);
        t.run(0, 0, 8);
        due(0, "of a trap", t::value);
        t.run(0, 2, 8);
        t.run(0, 9, 8);
        due(0, "of one that failed", t::value);
        t.run(0, 2, 8);
        t.run(0, 99, 8);
        due(0, "of a tired one", t::value);
        t.run(0, 2, 8);
        due(INDEX, "no such mutant", () -> t.run(99, 1, 1));
        due(4, "what throws is no run", t::value);
        t.test(8, 800);
        t.matrix();
        due(4, "those of the matrix are none", t::value);

        sentence("9: 0 if there was none");
        due(0, "of a new object", () -> new MutantTester().value());
        due(0, "of what is compiled", () -> compiled(text).value());
        due(0, "with a matrix", () -> tested("^9;", 1, 1).value());
        t.compile();
        due(0, "of what is compiled anew", t::value);

        sentence("10: How much fuel that run took");
        MutantTester took = compiled(text);
        took.run(0, 2, 8);
        due(2, "took", took::took);
        due(2, "again", took::took);
        took.run(0, 0, 8);
        due(0, "by a trap before any", took::took);
        took.run(0, 9, 8);
        due(9, "by one that failed", took::took);
        took.run(0, 20, 8);
        due(20, "by one that took all and failed", took::took);
        took.run(0, 21, 8);
        due(20, "by a tired one", took::took);
        took.run(1, 5, 8);
        due(0, "by one without the @", took::took);
        took.run(0, 2, 8);
        due(INDEX, "no such mutant", () -> took.run(99, 1, 1));
        due(2, "what throws is no run", took::took);
        took.test(8, 800);
        took.matrix();
        due(2, "those of the matrix are none", took::took);

        sentence("10: 0 if there was none");
        due(0, "of a new object", () -> new MutantTester().took());
        due(0, "of what is compiled", () -> compiled(text).took());
        due(0, "with a matrix", () -> tested("@a<3{a=a+1;}", 1, 1).took());
        took.compile();
        due(0, "of what is compiled anew", took::took);
    }

    private static void promise11() {
        // 1 ?, 2-4 <, 5-6 1, 7 ^y, 8 ^y+0, 9-12 + (9, the -, is class 0), 13-14 0: 13 classes without that.
        String text = "?x<1{^y;}^y+0;";
        sentence("11: Makes the matrix");
        MutantTester t = compiled(text);
        due(STATE, "before", () -> t.score(0));
        due(0, "without tests", t::matrix);
        due(13, "behind it", () -> t.score(0));

        sentence("11: (anew, if it is there");
        t.test(0, 4);
        due(7, "matrix", t::matrix);
        due(7, "anew", t::matrix);
        due(7, "and anew", t::matrix);
        due(13, "score", () -> t.score(0));
        due(0, "killed", () -> t.score(1));
        MutantTester less = compiled("@a<x{a=a+1;}^7;");
        less.test(9, 0);
        less.matrix();
        due(true, "the ^ is reached with fuel 20", () -> less.reached(12, 0));
        less.fuel(5);
        less.matrix();
        due(false, "but not with fuel 5", () -> less.reached(12, 0));

        sentence("11: value() and took() stay)");
        MutantTester kept = compiled(LOOP);
        kept.test(9, 9);
        kept.run(0, 3, 5);
        kept.matrix();
        due(15, "value", kept::value);
        due(3, "took", kept::took);

        sentence("11: each mutant that is the least of its class");
        // 2: 2+1, 3: 0+1, 4: 1-1, 5: 1*1 (as 3), 6: 1/1 (as 3), 7: 1%1 (as 4), 8: 1+2 (as 2), 9: 1+0 (as 3).
        due(4, "of nine", () -> matrixOf("^1+1;", 0, 0));
        due(8, "of nine, by two tests", () -> matrixOf("^1+1;", 0, 0, 1, 1));
        due(1, "of three", () -> matrixOf("a=x;a=x;a=x;", 0, 0));

        sentence("11: and not of that of the program itself");
        due(0, "none", () -> matrixOf("a=a;", 0, 0));
        due(6, "without x - 0", () -> matrixOf("^x+0;", 0, 0));

        sentence("11: on each test that reaches its site: how many runs of mutants that are");
        due(7, "of 13 those of the first way", () -> matrixOf(text, 0, 4));
        due(12, "of 13 those of the second way", () -> matrixOf(text, 5, 4));
        due(7 + 12 + 7, "of three tests", () -> matrixOf(text, 0, 4, 5, 4, 0, 4));
        due(12 * 8, "of eight tests", () -> matrixOf(text, 1, 1, 2, 2, 3, 3, 4, 4, 5, 5, 6, 6, 7, 7, 8, 8));
        due(5, "what is behind a trap is not reached", () -> matrixOf("a=x/y;b=x;", 1, 0));
        due(6, "nor a row that is not taken", () -> matrixOf("?x<1{a=1;a=1;}", 1, 1));
        due(7, "7, the & for the |, is the least of its class and reached; 8, 10, 11 and 14 are not run", () -> matrixOf("!x<1|1<2;", 5, 5));
        due(0, "of no text", () -> matrixOf("", 1, 1));

        sentence("11: IllegalStateException if nothing is compiled");
        due(STATE, "matrix", () -> new MutantTester().matrix());
        MutantTester early = typed("^x;");
        due(STATE, "typed, but not compiled", early::matrix);
        due(1, "compile", early::compile);
        due(STATE, "there is no matrix", () -> early.score(0));
    }

    private static int matrixOf(String text, int... inputs) {
        MutantTester t = compiled(text);
        for (int i = 0; i < inputs.length; i += 2) {
            t.test(inputs[i], inputs[i + 1]);
        }
        return t.matrix();
    }

    private static void promise12() {
        sentence("12: Whether a mutant is killed by a test, as the matrix says");
        MutantTester t = tested("?x<1{^y;}^y+0;", 0, 4, 5, 4, 0, 0);
        // With x = 0 every way returns y, so that no mutant is killed; with x = 5 the ^ at the end counts.
        boolean[] second = {false, false, false, false, false, false, false, false, true, false, true, true, true, true, true};
        for (int m = 1; m <= 14; m++) {
            int number = m;
            due(false, "killed " + m + " by 0", () -> t.killed(number, 0));
            due(second[m], "killed " + m + " by 1", () -> t.killed(number, 1));
            due(false, "killed " + m + " by 2", () -> t.killed(number, 2));
        }
        MutantTester eight = tested("^x;", 0, 0, 0, 1, 0, 2, 0, 3, 0, 4, 0, 5, 0, 6, 1, 7);
        due(true, "by the eighth", () -> eight.killed(1, 7));
        due(false, "by the seventh", () -> eight.killed(1, 6));
        due(false, "by the first", () -> eight.killed(1, 0));

        sentence("12: (any mutant of a class is as the least one");
        MutantTester decided = tested("!x<1|1<2;", 0, 0, 5, 0);
        for (int m : new int[] {7, 8, 10, 11, 14}) {
            due(false, "killed " + m + " by 0", () -> decided.killed(m, 0));
            due(true, "killed " + m + " by 1", () -> decided.killed(m, 1));
        }
        MutantTester same = tested("^1+1;", 0, 0);
        for (int m = 1; m <= 9; m++) {
            int number = m;
            due(true, "killed " + m, () -> same.killed(number, 0));
        }

        sentence("12: of class 0 killed by none)");
        MutantTester zero = tested("^x+0;", 3, 0);
        due(false, "x - 0", () -> zero.killed(2, 0));
        due(true, "x * 0", () -> zero.killed(3, 0));
        due(false, "a=a left out", () -> tested("a=a;^x;", 3, 0).killed(1, 0));

        sentence("12: what a matrix before has said is gone");
        MutantTester many = tested(sum("a=x;^", 7, 20), 3, 0);
        write(many, "?x<0{^9;}");
        many.compile();
        many.test(3, 0);
        many.matrix();
        due(false, "the ? left out", () -> many.killed(1, 0));
        due(true, "x > 0", () -> many.killed(2, 0));
        due(2, "x > 0 and x # 0", () -> many.score(1));

        sentence("12: IllegalStateException if there is no matrix");
        dueNoMatrix((of, m, test) -> () -> of.killed(m, test));

        sentence("12: IndexOutOfBoundsException if there is no such mutant (from 1 on) or test");
        dueNoSuch((of, m, test) -> () -> of.killed(m, test));

        sentence("12: what throws leaves all as it was");
        dueAsItWas(INDEX, of -> of.killed(0, 0), of -> of.killed(99, 0), of -> of.killed(1, 2), of -> of.killed(1, -1));
    }

    private interface Asked {
        Call of(MutantTester t, int m, int test);
    }

    private static void dueNoMatrix(Asked asked) {
        due(STATE, "nothing compiled", asked.of(new MutantTester(), 1, 0));
        due(STATE, "nothing compiled, no such mutant and test", asked.of(new MutantTester(), -1, -1));
        MutantTester none = compiled("^x;");
        due(STATE, "no matrix and no test", asked.of(none, 1, 0));
        none.test(1, 1);
        due(STATE, "no matrix", asked.of(none, 1, 0));
        due(STATE, "no matrix, no such mutant", asked.of(none, 9, 0));
        due(STATE, "no matrix, no such test", asked.of(none, 1, 9));
        none.matrix();
        due(true, "with the matrix", asked.of(none, 1, 0));
        none.test(1, 1);
        due(STATE, "behind a test", asked.of(none, 1, 0));
        none.matrix();
        none.fuel(20);
        due(STATE, "behind a fuel", asked.of(none, 1, 0));
        none.matrix();
        none.compile();
        due(STATE, "behind a compile", asked.of(none, 1, 0));
    }

    private static void dueNoSuch(Asked asked) {
        MutantTester t = tested(LOOP, 2, 3, 0, 1, 4, 5);
        due(INDEX, "mutant 0", asked.of(t, 0, 0));
        for (int m : NO_MUTANTS) {
            due(INDEX, "mutant " + m, asked.of(t, m, 0));
        }
        for (int test : new int[] {-1, 3, 7, 8, 31, 32, 64, GREATEST, LEAST}) {
            due(INDEX, "test " + test, asked.of(t, 1, test));
        }
        due(true, "mutant 1, test 0", asked.of(t, 1, 0));
        due(true, "mutant 12, test 2", asked.of(t, 12, 2));
        MutantTester eight = tested("^x;", 1, 1, 2, 2, 3, 3, 4, 4, 5, 5, 6, 6, 7, 7, 8, 8);
        due(true, "test 7", asked.of(eight, 1, 7));
        due(INDEX, "test 8", asked.of(eight, 1, 8));
        due(INDEX, "no tests", asked.of(tested("^x;"), 1, 0));
        due(INDEX, "no mutants", asked.of(tested("", 1, 1), 1, 0));
    }

    private static void promise13() {
        sentence("13: Whether the program itself reaches a mutant's own site with a test");
        MutantTester t = tested("?x<1{^y;}^y+0;", 0, 4, 5, 4);
        dueReached(t, 0, 0, 2, 3, 5);
        dueReached(t, 1, 0, 2, 3, 9, 11, 12);
        MutantTester longest = tested("a=x;".repeat(13) + "^(x)*90;", 1, 0);
        dueReached(longest, 0, 0, 4, 8, 12, 16, 20, 24, 28, 32, 36, 40, 44, 48, 52, 56, 57);

        sentence("13: own site: also where the least one of the class has another one");
        // C & TRUE (7) is C, and so is C | FALSE: 2<2 (8), 1>2 (10), 1=2 (11), 1<1 (14).
        MutantTester same = tested("!x<1|1<2;", 0, 0, 5, 0);
        dueClasses("!x<1|1<2;", 1, 2, 3, 4, 5, 6, 7, 7, 0, 7, 7, 0, 0, 7);
        for (int m : new int[] {8, 10, 11, 14}) {
            due(false, "the right side, " + m + ", if the left one holds", () -> same.reached(m, 0));
            due(true, "the right side, " + m + ", if the left one does not hold", () -> same.reached(m, 1));
        }
        due(true, "the |", () -> same.reached(7, 0));
        MutantTester behind = tested("?x<1{^1;}^1+0;", 0, 0, 5, 0);
        due(0, "1 - 0 is of class 0", () -> behind.mutant(13, 3));
        due(false, "and not reached with x = 0", () -> behind.reached(13, 0));
        due(true, "but with x = 5", () -> behind.reached(13, 1));

        sentence("13: Exceptions as with killed: no matrix");
        dueNoMatrix((of, m, test) -> () -> of.reached(m, test));

        sentence("13: Exceptions as with killed: no such mutant or test");
        dueNoSuch((of, m, test) -> () -> of.reached(m, test));

        sentence("13: what throws leaves all as it was");
        dueAsItWas(INDEX, of -> of.reached(0, 0), of -> of.reached(99, 0), of -> of.reached(1, 2), of -> of.reached(1, -1));
    }

    private static void promise14() {
        sentence("14: Classes without that of the program itself: how many (what = 0)");
        due(4, "of nine mutants", () -> tested("^1+1;").score(0));
        due(6, "without x - 0", () -> tested("^x+0;", 1, 1).score(0));
        due(13, "of 14", () -> tested("?x<1{^y;}^y+0;", 0, 4).score(0));
        due(0, "the program itself alone", () -> tested("a=a;", 1, 1).score(0));
        due(0, "of no text", () -> tested("").score(0));
        due(1, "of fifteen", () -> tested("a=x;".repeat(15)).score(0));

        sentence("14: how many of these are killed by some test (1)");
        due(0, "without tests", () -> tested("^1+1;").score(1));
        due(4, "each is counted once", () -> tested("^1+1;", 0, 0, 1, 1).score(1));
        due(0, "none", () -> tested("?x<1{^y;}^y+0;", 0, 4).score(1));
        due(6, "by the second", () -> tested("?x<1{^y;}^y+0;", 0, 4, 5, 4).score(1));
        due(6, "by the eighth", () -> tested("?x<1{^y;}^y+0;", 0, 4, 0, 4, 0, 4, 0, 4, 0, 4, 0, 4, 0, 4, 5, 4).score(1));
        due(0, "of no text", () -> tested("", 1, 1).score(1));

        sentence("14: IllegalStateException if there is no matrix");
        for (int what : new int[] {0, 1, 2, -1}) {
            due(STATE, "nothing compiled: " + what, () -> new MutantTester().score(what));
            due(STATE, "no matrix: " + what, () -> compiled("^x;").score(what));
        }
        MutantTester t = tested("^x;", 1, 1);
        due(1, "with the matrix", () -> t.score(1));
        t.test(2, 2);
        due(STATE, "behind a test", () -> t.score(0));
        t.matrix();
        t.fuel(20);
        due(STATE, "behind a fuel", () -> t.score(0));
        t.matrix();
        t.compile();
        due(STATE, "behind a compile", () -> t.score(0));

        sentence("14: IllegalArgumentException if there is no such what");
        MutantTester made = tested("^x;", 1, 1);
        for (int what : new int[] {-1, 2, GREATEST, LEAST}) {
            due(ARGUMENT, "what " + what, () -> made.score(what));
        }
        due(1, "the matrix stays", () -> made.score(0));

        sentence("14: what throws leaves all as it was");
        dueAsItWas(ARGUMENT, of -> of.score(2), of -> of.score(-1));
    }
}
