import java.util.ArrayList;
import java.util.Arrays;
import java.util.List;

/** What tests by sentence share: each of them is named by the words of the document that it holds the program to. */
abstract class SentenceTests {
    static final Class<?> STATE = IllegalStateException.class;
    static final Class<?> INDEX = IndexOutOfBoundsException.class;
    static final Class<?> ARGUMENT = IllegalArgumentException.class;
    static final int LEAST = Integer.MIN_VALUE;
    static final int GREATEST = Integer.MAX_VALUE;
    private static final int MOST_MUTANTS = 120;

    interface Call {
        Object go();
    }

    private static String words = "";
    private static int asked = 0;
    private static int wrong = 0;
    private static int passed = 0;
    private static int failed = 0;

    /** What is asked from here on is a test of its own. */
    static void sentence(String next) {
        end();
        words = next;
    }

    private static void end() {
        if (!words.isEmpty() && asked > 0 && wrong == 0) {
            passed++;
        } else if (!words.isEmpty()) {
            failed++;
            System.out.println("FAILED (" + wrong + " of " + asked + " answers): " + words);
        }
        asked = 0;
        wrong = 0;
    }

    /** Some sentences; what throws where nothing should is a wrong answer of the one that is asked then. */
    static void part(Runnable sentences) {
        try {
            sentences.run();
        } catch (RuntimeException e) {
            asked++;
            wrong++;
            System.out.println(words + ": threw " + e + " at " + e.getStackTrace()[0]);
        }
    }

    static void finish() {
        end();
        System.out.println(passed + " passed, " + failed + " failed");
        if (failed != 0) {
            System.exit(1);
        }
    }

    static Object answer(Call of) {
        try {
            return of.go();
        } catch (RuntimeException e) {
            return e.getClass();
        }
    }

    static void due(Object want, String call, Call of) {
        asked++;
        Object got = answer(of);
        if (!want.equals(got)) {
            wrong++;
            System.out.println(words + ": " + call + " answered " + got + ", due is " + want);
        }
    }

    static void write(MutantTester t, String text) {
        t.wipe();
        for (int i = 0; i < text.length(); i++) {
            t.type(text.charAt(i));
        }
    }

    static MutantTester typed(String text) {
        MutantTester t = new MutantTester();
        write(t, text);
        return t;
    }

    static MutantTester compiled(String text) {
        MutantTester t = typed(text);
        due(true, text + " is compiled", () -> t.compile() >= 0);
        return t;
    }

    /** With a test for each pair of inputs, and with the matrix. */
    static MutantTester tested(String text, int... inputs) {
        MutantTester t = compiled(text);
        for (int i = 0; i < inputs.length; i += 2) {
            t.test(inputs[i], inputs[i + 1]);
        }
        t.matrix();
        return t;
    }

    static int countOf(String text) {
        return typed(text).compile();
    }

    static void dueCount(int want, String text) {
        due(want, text + " compile", () -> countOf(text));
    }

    static void duePrograms(String... texts) {
        for (String text : texts) {
            due(true, text + " is a program", () -> countOf(text) >= 0);
        }
    }

    static void dueNoPrograms(String... texts) {
        for (String text : texts) {
            due(ARGUMENT, text + " is no program", () -> countOf(text));
        }
    }

    /** Of the program itself: the inputs, and what is due. */
    static void dueRun(String text, int x, int y, int outcome, int value, int took) {
        dueRun(compiled(text), text + " run", 0, x, y, outcome, value, took);
    }

    static void dueRun(MutantTester t, String call, int m, int x, int y, int outcome, int value, int took) {
        String on = call + " " + m + " on " + x + ", " + y;
        due(outcome, on, () -> t.run(m, x, y));
        due(value, on + ": value", t::value);
        due(took, on + ": took", t::took);
    }

    static void dueReturn(String text, int x, int y, int value) {
        dueRun(text, x, y, 0, value, 0);
    }

    static void dueMutant(MutantTester t, int m, int site, int kind, int instead) {
        due(site, "site of " + m, () -> t.mutant(m, 0));
        due(kind, "kind of " + m, () -> t.mutant(m, 1));
        due(instead, "what is instead of " + m, () -> t.mutant(m, 2));
    }

    static void dueClass(int want, String text, int m) {
        due(want, text + " class of " + m, () -> compiled(text).mutant(m, 3));
    }

    /** Of all mutants, from 1 on. */
    static void dueClasses(String text, Integer... classes) {
        MutantTester t = compiled(text);
        List<Object> got = new ArrayList<>();
        for (int m = 1; m <= classes.length; m++) {
            int number = m;
            got.add(answer(() -> t.mutant(number, 3)));
        }
        due(Arrays.asList(classes), text + " classes", () -> got);
        due(classes.length, text + " compile", () -> countOf(text));
    }

    /** Without its first statement the program is the same. */
    static void dueFoldedAway(String... texts) {
        for (String text : texts) {
            dueFoldedAway(text, 0);
        }
    }

    static void dueFoldedAway(String text, int place) {
        due(true, text + " is the same without the statement at " + place, () -> classWithout(text, place) == 0);
    }

    /** Without its first statement the program is another one. */
    static void dueStays(String... texts) {
        for (String text : texts) {
            dueStays(text, 0);
        }
    }

    static void dueStays(String text, int place) {
        due(false, text + " is the same without the statement at " + place, () -> classWithout(text, place) == 0);
    }

    /** Of two statements the folded ones are equal: what is left without the one is what is left without the other. */
    static void dueSame(String one, String other) {
        due(true, one + " is as " + other, () -> classWithout(one + other, 0) == classWithout(one + other, one.length()));
    }

    static void dueOther(String one, String other) {
        due(false, one + " is as " + other, () -> classWithout(one + other, 0) == classWithout(one + other, one.length()));
    }

    private static int classWithout(String text, int place) {
        MutantTester t = typed(text);
        int many = t.compile();
        for (int m = 1; m <= many; m++) {
            if (t.mutant(m, 0) == place && t.mutant(m, 1) == 4) {
                return t.mutant(m, 3);
            }
        }
        throw new IllegalArgumentException("no statement at " + place);
    }

    /** All places of which a mutant is reached by the test. */
    static void dueReached(MutantTester t, int test, Integer... places) {
        List<Integer> got = new ArrayList<>();
        for (int m = 1; m <= MOST_MUTANTS && !answer(mutantCall(t, m)).equals(INDEX); m++) {
            int site = t.mutant(m, 0);
            if (t.reached(m, test) && !got.contains(site)) {
                got.add(site);
            }
        }
        due(Arrays.asList(places), "reached by test " + test, () -> got);
    }

    private static Call mutantCall(MutantTester t, int m) {
        return () -> t.mutant(m, 0);
    }

    /** What an object answers without being changed; made of some 10 calls for each mutant. */
    static String seenOf(MutantTester t) {
        StringBuilder all = new StringBuilder();
        all.append(t.value()).append(' ').append(t.took());
        all.append(' ').append(answer(() -> t.score(0))).append(' ').append(answer(() -> t.score(1)));
        for (int m = 1; m <= MOST_MUTANTS + 1; m++) {
            int number = m;
            Object site = answer(mutantCall(t, m));
            all.append("\n").append(site);
            if (!(site instanceof Integer)) {
                break;
            }
            for (int what = 1; what < 4; what++) {
                all.append(' ').append(t.mutant(m, what));
            }
            for (int test = 0; test < 3; test++) {
                int with = test;
                all.append(' ').append(answer(() -> t.killed(number, with)));
                all.append(' ').append(answer(() -> t.reached(number, with)));
            }
        }
        return all.toString();
    }

    /** A sum with so many constants and then so many inputs behind what it begins with. */
    static String sum(String begin, int constants, int inputs) {
        return begin + "+1".repeat(constants).concat("+x".repeat(inputs)).substring(1) + ";";
    }
}
