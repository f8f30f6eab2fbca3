import java.lang.reflect.InvocationTargetException;
import java.lang.reflect.Method;
import java.lang.reflect.Modifier;
import java.util.ArrayList;
import java.util.Arrays;
import java.util.Comparator;
import java.util.List;
import java.util.NoSuchElementException;

/** What the tests of the document's sentences have in common. */
abstract class Bench {
    static final int ALL_MOODS = 4194303;
    static final int ALL_TERMS = (1 << 24) - 1;
    static final int MIN = Integer.MIN_VALUE;
    static final int MAX = Integer.MAX_VALUE;
    static final int NOBODY = 4096;
    /** The first CODE and the last: all a are a; some that are not l are not what is not l. */
    static final int FIRST_CODE = 0;
    static final int LAST_CODE = 2303;

    private static int wrong = 0;
    private static String sentence = "";

    interface Made {
        SomeAreNoneIs make();
    }

    /** A call; a boolean answer counts 1 or 0. */
    interface Call {
        long on(SomeAreNoneIs x);
    }

    interface CallOfOne {
        long on(SomeAreNoneIs x, int argument);
    }

    interface CallOfTwo {
        long on(SomeAreNoneIs x, int first, int second);
    }

    // ---- how tests are found and run

    /** The tests of a class, by their promises, then by their names. */
    static List<Method> testsOf(Class<?> tests) {
        List<Method> found = new ArrayList<>();
        for (Method m : tests.getDeclaredMethods()) {
            if (m.isAnnotationPresent(Says.class)) {
                found.add(m);
            }
        }
        found.sort(Comparator.comparingInt((Method m) -> m.getAnnotation(Says.class).promise()).thenComparing(Method::getName));
        return found;
    }

    static void run(Class<?> tests) {
        List<Method> found = testsOf(tests);
        for (Method m : found) {
            Says says = m.getAnnotation(Says.class);
            sentence = "promise " + says.promise() + " \"" + String.join(" .. ", says.words()) + "\" (" + m.getName() + ")";
            runOne(m);
        }
        System.out.println(tests.getName() + ": " + found.size() + " tests, " + wrong + " answers are not as due");
        if (wrong != 0 || found.isEmpty()) {
            System.exit(1);
        }
    }

    private static void runOne(Method m) {
        try {
            m.setAccessible(true);
            m.invoke(null);
        } catch (InvocationTargetException e) {
            fail("threw " + e.getCause());
        } catch (IllegalAccessException e) {
            fail("can't be called: " + Modifier.toString(m.getModifiers()));
        }
    }

    static void fail(String what) {
        wrong++;
        System.out.println(sentence + ": " + what);
    }

    // ---- what is due

    static void due(String call, long want, long got) {
        if (got != want) {
            fail(call + " answered " + got + ", due is " + want);
        }
    }

    static void due(String call, boolean want, boolean got) {
        due(call, want ? 1 : 0, got ? 1 : 0);
    }

    /** The whole ROW, and that there is nothing behind it nor ahead of it. */
    static void dueRow(String call, SomeAreNoneIs x, int... want) {
        due(call + ", numbers of the ROW", want.length, x.count(6));
        for (int i = 0; i < want.length && i < x.count(6); i++) {
            due(call + ", row(" + i + ")", want[i], x.row(i));
        }
        dueNone(call + ", row(" + want.length + ")", x, y -> y.row(want.length));
        dueNone(call + ", row(-1)", x, y -> y.row(-1));
    }

    /** NoSuchElementException. */
    static void dueNone(String call, SomeAreNoneIs x, Call made) {
        long answer;
        try {
            answer = made.on(x);
        } catch (NoSuchElementException e) {
            return;
        }
        fail(call + " answered " + answer + ", due is NoSuchElementException");
    }

    // ---- that nothing has changed

    /** The call is NONE or false, and changes nothing. */
    static void refused(String call, Made made, long answer, Call refusedCall) {
        idleCall(call, made, answer, refusedCall);
    }

    static void refused(String call, Call refusedCall) {
        refused(call, Bench::busy, -1, refusedCall);
    }

    static void refusedAsFalse(String call, Call refusedCall) {
        refused(call, Bench::busy, 0, refusedCall);
    }

    /** NoSuchElementException, and nothing has changed. */
    static void throwsNone(String call, Made made, Call thrower) {
        SomeAreNoneIs x = made.make();
        dueNone(call, x, thrower);
        dueSame(call, x, made.make());
    }

    static void throwsNone(String call, Call thrower) {
        throwsNone(call, Bench::busy, thrower);
    }

    /** A call that answers so and leaves all as it was. */
    static void idleCall(String call, Made made, long answer, Call idle) {
        SomeAreNoneIs x = made.make();
        due(call, answer, idle.on(x));
        dueSame(call, x, made.make());
    }

    /** A call that answers so and tells this ROW, and leaves all else as it was. */
    static void dueRowAlone(String call, long answer, Call made, int... row) {
        SomeAreNoneIs x = busy();
        due(call, answer, made.on(x));
        dueRow(call, x, row);
        x.judge(1, 5, NOBODY);
        dueSame(call, x, busy());
    }

    /** A text that is refused: nothing changes but that it is empty. */
    static void refusedText(String call, Made made, long answer, String text, Call reader) {
        SomeAreNoneIs x = made.make();
        write(x, text);
        due(call, answer, reader.on(x));
        due(call + ", signs of THE TEXT", 0, x.count(7));
        SomeAreNoneIs twin = made.make();
        twin.end(0);
        dueSame(call, x, twin);
    }

    /** Both are asked for all that they hold, which changes them. */
    static void dueSame(String call, SomeAreNoneIs x, SomeAreNoneIs twin) {
        List<String> got = revealed(x);
        List<String> want = revealed(twin);
        for (int i = 0; i < got.size() && i < want.size(); i++) {
            if (!got.get(i).equals(want.get(i))) {
                fail("behind " + call + ": " + got.get(i) + ", without it: " + want.get(i));
                return;
            }
        }
        due("behind " + call + ": what there is to ask", want.size(), got.size());
    }

    /** All that an object holds: what can be read, then THE TEXT, what is kept, what is WANTED. */
    private static List<String> revealed(SomeAreNoneIs x) {
        List<String> all = new ArrayList<>();
        for (int what = 0; what < 8; what++) {
            all.add("count(" + what + ") = " + x.count(what));
        }
        revealRow(all, x);
        revealSayings(all, x);
        int steps = x.count(4);
        for (int step = 0; step < steps; step++) {
            for (int what = 0; what < 5; what++) {
                all.add("pleaded(" + step + ", " + what + ") = " + x.pleaded(step, what));
            }
        }
        all.add("stands() = " + x.stands());
        all.add("gap() = " + x.gap());
        all.add("fewest() = " + x.fewest());
        revealRow(all, x);
        all.add("told() = " + x.told());
        revealSayings(all, x);
        for (int shelf = 0; shelf < 3; shelf++) {
            all.add("again(" + shelf + ") = " + x.again(shelf));
            all.add("count(2) = " + x.count(2));
            all.add("count(3) = " + x.count(3));
            revealMarks(all, x);
        }
        revealWanted(all, x);
        return all;
    }

    private static void revealRow(List<String> all, SomeAreNoneIs x) {
        int numbers = x.count(6);
        for (int i = 0; i < numbers; i++) {
            all.add("row(" + i + ") = " + x.row(i));
        }
    }

    private static void revealSayings(List<String> all, SomeAreNoneIs x) {
        int told = x.count(0);
        for (int i = 0; i < told; i++) {
            all.add("saying(" + i + ") = " + x.saying(i, 0) + " " + x.saying(i, 1) + " " + x.saying(i, 2) + " " + x.saying(i, 3));
        }
    }

    /** What again() may have changed of them. */
    private static void revealMarks(List<String> all, SomeAreNoneIs x) {
        int told = x.count(0);
        for (int i = 0; i < told; i++) {
            all.add("saying(" + i + "), marks: " + x.saying(i, 2) + " " + x.saying(i, 3));
        }
    }

    /** Without moods gap() has those WANTED that FOLLOW: from ever fewer SAYINGS. */
    private static void revealWanted(List<String> all, SomeAreNoneIs x) {
        x.allow(0);
        int told = x.count(0);
        for (int i = 0; i < told; i++) {
            all.add("gap() = " + x.gap());
            x.mark(i, 1, true);
        }
        all.add("forget() = " + x.forget());
    }

    // ---- cases

    /** Something of all that an object may hold. */
    static SomeAreNoneIs busy() {
        SomeAreNoneIs x = court("Aab@0;Abc@1?;Icd@2;Oaf@7?");
        x.lives(0, true);
        x.keep(0);
        x.mark(1, 0, false);
        x.mark(0, 0, true);
        x.lives(11, true);
        x.allow(ALL_MOODS - 8);
        x.keep(2);
        x.mark(2, 1, true);
        x.mark(3, 0, false);
        x.lives(2, true);
        x.allow(ALL_MOODS - 16);
        x.want(c("Aac"));
        x.want(c("Aaa"));
        x.want(c("Ibc"));
        plead(x, "1:1+0Aac;2:16Ea-c;3:0Iab");
        x.judge(1, 5, NOBODY);
        write(x, "E-ak@5?");
        return x;
    }

    /** Sixteen SAYINGS, twelve by one text and four by another. */
    static SomeAreNoneIs sixteen() {
        return court("Aab@0;Abc@1;Acd@2;Ade@3;Aef@4;Afg@5;Agh@6;Ahi@7;Aij@0;Ajk@1;Akl@2;Ial@3", "Aal@4;Aab@5?;Ela@6;Ibb@7");
    }

    /** Room for one more. */
    static SomeAreNoneIs sixteenLess() {
        return court(lines("Aab@1", 12), "Abc@2;Icd@3?;Oed@4");
    }

    static SomeAreNoneIs court(String... texts) {
        SomeAreNoneIs x = new SomeAreNoneIs();
        for (String text : texts) {
            if (told(x, text) < 0) {
                fail("told() of " + text + " was refused");
            }
        }
        return x;
    }

    /** THE TEXT is this one, whatever it was before. */
    static void write(SomeAreNoneIs x, String text) {
        x.end(0);
        for (int i = 0; i < text.length(); i += 4) {
            int v = 0;
            for (int j = i; j < i + 4; j++) {
                v = v << 8 | (j < text.length() ? text.charAt(j) : 0);
            }
            x.sign(v);
        }
        x.end(text.length());
    }

    static int told(SomeAreNoneIs x, String text) {
        write(x, text);
        return x.told();
    }

    static int plead(SomeAreNoneIs x, String text) {
        write(x, text);
        return x.plead();
    }

    /** A text of so many signs, of one repeated. */
    static String times(String part, int n) {
        return part.repeat(n);
    }

    /** A line told so many times, with ; between. */
    static String lines(String line, int n) {
        String[] all = new String[n];
        Arrays.fill(all, line);
        return String.join(";", all);
    }

    // ---- numbers

    /** CODE of a saying such as "Aa-b". */
    static int c(String saying) {
        int second = saying.charAt(1) == '-' ? 3 : 2;
        return 576 * "AEIO".indexOf(saying.charAt(0)) + 24 * t(saying.substring(1, second)) + t(saying.substring(second));
    }

    /** TERM of a letter, perhaps with - ahead of it. */
    static int t(String term) {
        return term.charAt(0) == '-' ? 2 * (term.charAt(1) - 'a') + 1 : 2 * (term.charAt(0) - 'a');
    }

    static int terms(String... some) {
        int bits = 0;
        for (String term : some) {
            bits |= 1 << t(term);
        }
        return bits;
    }

    /** SORT of letters. */
    static int s(String kinds) {
        int bits = 0;
        for (int i = 0; i < kinds.length(); i++) {
            bits |= 1 << kinds.charAt(i) - 'a';
        }
        return bits;
    }

    // ---- edges of arguments

    /** Of a call with a CODE: what is due for the first and the last, and that those outside are refused. */
    static void dueOfCodes(String call, Made made, long first, long last, CallOfOne asked) {
        due(call + "(0)", first, asked.on(made.make(), FIRST_CODE));
        due(call + "(2303)", last, asked.on(made.make(), LAST_CODE));
        for (int code : new int[] {-1, 2304, -2, MIN, MAX}) {
            refused(call + "(" + code + ")", made, -1, x -> asked.on(x, code));
            refused(call + "(" + code + ")", Bench::busy, -1, x -> asked.on(x, code));
        }
    }

    /** Of a call with a TERM: likewise. */
    static void dueOfTerms(String call, Made made, long first, long last, CallOfOne asked) {
        due(call + "(0)", first, asked.on(made.make(), 0));
        due(call + "(23)", last, asked.on(made.make(), 23));
        for (int term : new int[] {-1, 24, -2, MIN, MAX}) {
            refused(call + "(" + term + ")", made, -1, x -> asked.on(x, term));
            refused(call + "(" + term + ")", Bench::busy, -1, x -> asked.on(x, term));
        }
    }
}
