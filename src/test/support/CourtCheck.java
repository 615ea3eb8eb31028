import java.lang.reflect.InvocationTargetException;
import java.lang.reflect.Method;
import java.lang.reflect.Modifier;
import java.util.NoSuchElementException;

/** What the tests written by hand share: answers that are due are counted, TEXTS come on the TAPE, rows are packed. */
class CourtCheck {
    static final long ERROR = Long.MIN_VALUE;
    static final int LOW = Integer.MIN_VALUE;
    static final int HIGH = Integer.MAX_VALUE;
    static final String BILLION = "1000*1000*1000";

    /** The name of the test that runs. */
    static String test = "";
    private static int checks = 0;
    private static int wrong = 0;

    // ---- the run ----

    /** Runs every private static method of the class that takes nothing, so that no test can be forgotten. */
    static void runAll(Class<?> tests) {
        for (Method method : tests.getDeclaredMethods()) {
            boolean isTest = Modifier.isPrivate(method.getModifiers()) && Modifier.isStatic(method.getModifiers())
                && method.getParameterCount() == 0 && method.getReturnType() == void.class && !method.isSynthetic();
            if (isTest) {
                test = method.getName();
                run(method);
            }
        }
        finish(tests);
    }

    private static void run(Method method) {
        try {
            method.setAccessible(true);
            method.invoke(null);
        } catch (InvocationTargetException e) {
            due("the test ends without " + e.getCause(), 1, 0);
        } catch (IllegalAccessException e) {
            due("the test can be called", 1, 0);
        }
    }

    static void finish(Class<?> tests) {
        System.out.println(tests.getName() + ": " + (checks - wrong) + " of " + checks + " answers are as due");
        if (wrong != 0) {
            System.exit(1);
        }
    }

    static void due(String what, long got, long want) {
        checks++;
        if (got != want) {
            wrong++;
            System.out.println(test + ": " + what + " answered " + got + ", due is " + want);
        }
    }

    static void yes(String what, boolean got) {
        due(what, got ? 1 : 0, 1);
    }

    static void no(String what, boolean got) {
        due(what, got ? 1 : 0, 0);
    }

    // ---- TEXTS ----

    static int lay(CourtTongue x, String text) {
        int answer = 0;
        for (int i = 0; i < text.length(); i += 20) {
            int[] five = new int[5];
            for (int j = 0; j < 20; j++) {
                int sign = i + j < text.length() ? text.charAt(i + j) : ' ';
                five[j / 4] = five[j / 4] << 8 | sign;
            }
            answer = x.feed(five[0], five[1], five[2], five[3], five[4]);
        }
        return answer;
    }

    static int read(CourtTongue x, String text) {
        lay(x, text);
        return x.text(text.length());
    }

    static CourtTongue of(String text) {
        CourtTongue x = new CourtTongue();
        if (read(x, text) < 0) {
            throw new IllegalStateException("fault " + x.fault(0) + " at " + x.fault(1) + " in " + text);
        }
        return x;
    }

    static void faulty(String text, int fault, int place) {
        CourtTongue x = new CourtTongue();
        due("text of " + text, read(x, text), -1);
        due("fault of " + text, x.fault(0), fault);
        due("place of it in " + text, x.fault(1), place);
    }

    /** The FAULT stands where the second piece begins. */
    static void faultBehind(String sound, String rest, int fault) {
        faulty(sound + rest, fault, sound.length());
    }

    static void sound(String text, int lines) {
        CourtTongue x = new CourtTongue();
        due("text of " + text, read(x, text), lines);
        due("fault of " + text, x.fault(0), 0);
        due("place of it in " + text, x.fault(1), -1);
    }

    /** The TEXT ends within the TAPE: what stands behind is no part of it. */
    static void cut(String tape, int n, int fault, int place) {
        CourtTongue x = new CourtTongue();
        lay(x, tape);
        due("the first " + n + " of " + tape, x.text(n), -1);
        due("its fault", x.fault(0), fault);
        due("its place", x.fault(1), place);
    }

    static String many(String piece, int times) {
        return piece.repeat(times);
    }

    /** The first of a, b, c, d, e, aged 10, 20, 30, 40, 50. */
    static String people(int count) {
        StringBuilder text = new StringBuilder();
        for (int i = 0; i < count; i++) {
            text.append("person ").append((char) ('a' + i)).append(' ').append(10 * i + 10).append(';');
        }
        return text.toString();
    }

    /** Sixteen FACTS of five PEOPLE: a above b above c above d above e, in each season. */
    static String sixteenFacts() {
        StringBuilder text = new StringBuilder();
        for (int i = 0; i < 16; i++) {
            char upper = (char) ('a' + i / 4);
            char lower = (char) (upper + 1);
            text.append("above ").append(upper).append(' ').append(lower).append(" in ").append(i % 4).append(';');
        }
        return text.toString();
    }

    /** The E of a PART, said by a to b, who is below, about c, who is NEITHER; c is the eldest, b the youngest. */
    static long worth(String formula) {
        return of("person a 30;person b 20;person c 40;above a b;part p " + formula + ";").place(0, 0, 1, 2);
    }

    // ---- numbers that stand for something ----

    static int letters(String word) {
        int packed = 0;
        for (int i = 0; i < 6; i++) {
            packed = packed << 5 | (i < word.length() ? word.charAt(i) - 'a' + 1 : 0);
        }
        return packed;
    }

    static int row(int... words) {
        int packed = 0;
        for (int i = 0; i < words.length; i++) {
            packed |= words[i] << 3 * i;
        }
        return packed;
    }

    static int way(int hearer, int theme, int both) {
        return 1 << 9 * (hearer + 1) + 3 * (theme + 1) + both + 1;
    }

    static int triple(int speaker, int hearer, int theme) {
        return speaker + 8 * hearer + 64 * theme;
    }

    /** 0: an answer, 1: IndexOutOfBoundsException, 2: NoSuchElementException. */
    static int thrown(CourtTongue x, int person, int what) {
        try {
            x.look(person, what);
            return 0;
        } catch (IndexOutOfBoundsException e) {
            return 1;
        } catch (NoSuchElementException e) {
            return 2;
        }
    }
}
