import java.io.IOException;
import java.lang.reflect.Constructor;
import java.lang.reflect.Field;
import java.lang.reflect.Method;
import java.lang.reflect.Modifier;
import java.nio.file.Files;
import java.nio.file.Path;
import java.util.Arrays;
import java.util.NoSuchElementException;
import java.util.Set;
import java.util.TreeSet;
import java.util.regex.Matcher;
import java.util.regex.Pattern;

/** The document's face and no other; the rules of LANGUAGE.md that can be seen from outside; arguments of every size. */
public final class FaceTest {
    private static final Path DOCUMENT = Path.of("../shared/DOC.md");
    private static final Pattern TOLD = Pattern.compile("(?m)^    public (int|long|boolean) (\\w+)\\((.*?)\\)( throws .*)?;$");
    private static final int[] SIZES = {Integer.MIN_VALUE, Integer.MIN_VALUE + 1, -1000000, -65, -33, -32, -2, -1, 0, 1, 2,
        3, 4, 5, 6, 7, 8, 24, 31, 32, 33, 63, 64, 129, 1 << 15, 1 << 30, Integer.MAX_VALUE - 1, Integer.MAX_VALUE};

    private static int checks = 0;
    private static int wrong = 0;
    private static long seed = 7L;

    private static void check(String what, boolean holds) {
        checks++;
        if (!holds) {
            wrong++;
            System.out.println("does not hold: " + what);
        }
    }

    private static int pick(int bound) {
        seed = seed * 6364136223846793005L + 1442695040888963407L;
        return (int) ((seed >>> 33) % bound);
    }

    private static String told(Method method) {
        StringBuilder text = new StringBuilder(method.getReturnType() + " " + method.getName() + "(");
        Class<?>[] types = method.getParameterTypes();
        for (int i = 0; i < types.length; i++) {
            text.append(i == 0 ? "" : ", ").append(types[i]);
        }
        text.append(")");
        Class<?>[] thrown = method.getExceptionTypes();
        for (int i = 0; i < thrown.length; i++) {
            text.append(i == 0 ? " throws " : ", ").append(thrown[i].getSimpleName());
        }
        return text.toString();
    }

    /** The methods as the document tells them, without the names of what they take. */
    private static Set<String> faceOfTheDocument() throws IOException {
        String text = Files.readString(DOCUMENT);
        Set<String> face = new TreeSet<>();
        Matcher method = TOLD.matcher(text);
        while (method.find()) {
            String types = method.group(3).replaceAll(" \\w+(?=,|$)", "");
            String thrown = method.group(4) == null ? "" : method.group(4);
            face.add(method.group(1) + " " + method.group(2) + "(" + types + ")" + thrown);
        }
        check("the document tells NONE", text.contains("public static final int NONE = " + CourtTongue.NONE + ";"));
        return face;
    }

    private static void face() throws IOException {
        Set<String> due = faceOfTheDocument();
        check("30 methods in the document: " + due, due.size() == 30);
        Set<String> found = new TreeSet<>();
        Set<String> names = new TreeSet<>();
        for (Method method : CourtTongue.class.getDeclaredMethods()) {
            if (!Modifier.isPrivate(method.getModifiers()) && !method.isSynthetic()) {
                found.add(told(method));
                names.add(method.getName());
            }
        }
        check("the methods are the document's: " + found, found.equals(due));
        check("the class is public and final", CourtTongue.class.getModifiers() == (Modifier.PUBLIC | Modifier.FINAL));
        Constructor<?>[] constructors = CourtTongue.class.getDeclaredConstructors();
        check("one public constructor without arguments", constructors.length == 1
            && constructors[0].getParameterCount() == 0 && Modifier.isPublic(constructors[0].getModifiers()));
        for (Field field : CourtTongue.class.getDeclaredFields()) {
            boolean open = !Modifier.isPrivate(field.getModifiers());
            check("no open field but NONE: " + field, !open || field.getName().equals("NONE"));
        }
        for (Class<?> inner : CourtTongue.class.getDeclaredClasses()) {
            check("static: " + inner, Modifier.isStatic(inner.getModifiers()));
            for (Method method : inner.getDeclaredMethods()) {
                check("no name of the face: " + method, !names.contains(method.getName()));
            }
            int fields = 0;
            for (Field field : inner.getDeclaredFields()) {
                boolean constant = Modifier.isStatic(field.getModifiers());
                check("no static state: " + field, !constant || Modifier.isFinal(field.getModifiers()));
                fields += constant ? 0 : 1;
            }
            check("few fields: " + inner, fields <= 20);
        }
    }

    private static void source() throws IOException {
        String text = Files.readString(Path.of("src/main/java/CourtTongue.java"));
        String[] never = {"catch", "finally", "synchronized", "assert ", "->", "::", "instanceof", "Exact", "Object",
            "java.io", "java.time", "Random", "System.out", "Thread", "null"};
        for (String word : never) {
            check("never written: " + word, !text.contains(word));
        }
        check("one import", text.indexOf("import ") == text.lastIndexOf("import "));
        check("signs 1 to 127 alone", text.chars().allMatch(sign -> sign > 0 && sign < 128));
        check("two throws", text.split("throw new ", -1).length == 3);
    }

    // ---- arguments of every size, in every state: nothing but look throws ----

    private static int size() {
        return SIZES[pick(SIZES.length)];
    }

    private static int small() {
        return pick(4) == 0 ? size() : pick(6) - 1;
    }

    private static void read(CourtTongue x, String text) {
        for (int i = 0; i < text.length(); i += 20) {
            int[] five = new int[5];
            for (int j = 0; j < 20; j++) {
                five[j / 4] = five[j / 4] << 8 | (i + j < text.length() ? text.charAt(i + j) : ' ');
            }
            x.feed(five[0], five[1], five[2], five[3], five[4]);
        }
        x.text(text.length());
    }

    private static long callCourt(CourtTongue x) {
        switch (pick(14)) {
            case 0:
                return x.feed(size(), size(), size(), size(), size());
            case 1:
                return x.text(pick(8) == 0 ? pick(700) : -1);
            case 2:
                return x.fault(size());
            case 3:
                return x.named(small(), size());
            case 4:
                return x.stands(small(), small(), small());
            case 5:
                return x.season(small()) ? 1 : 0;
            case 6:
                return x.raise(small(), small(), small());
            case 7:
                return x.strike(small()) ? 1 : 0;
            case 8:
                return x.fact(small(), small());
            case 9:
                return x.ring(small(), small(), small());
            case 10:
                return x.rise(small(), small(), small());
            case 11:
                return x.keep();
            case 12:
                return x.back();
            default:
                return x.count(small());
        }
    }

    private static long callTongue(CourtTongue x) {
        int row = pick(2) == 0 ? x.say(pick(5), pick(5), pick(5)) : size();
        switch (pick(15)) {
            case 0:
                return x.say(small(), small(), small());
            case 1:
                return x.place(small(), small(), small(), small());
            case 2:
                return x.offence(small(), small(), small(), row);
            case 3:
                return x.amends(small(), small(), small(), row);
            case 4:
                return x.hall(small(), pick(2) == 0 ? pick(32) : size(), small(), small());
            case 5:
                return x.claims(small(), small(), small(), row);
            case 6:
                return x.hear(small(), small(), small(), small(), row);
            case 7:
                return x.unhear(small());
            case 8:
                return x.known(small()) ? 1 : 0;
            case 9:
                return x.possible();
            case 10:
                return x.sure(small(), small());
            case 11:
                return x.cannot();
            case 12:
                return x.order(pick(2) == 0 ? pick(4300) : size(), small(), small());
            case 13:
                return x.letter(row, small(), small());
            default:
                return x.silence(small(), small(), small(), small());
        }
    }

    private static int look(CourtTongue x, int person, int what) {
        try {
            x.look(person, what);
            return 0;
        } catch (IndexOutOfBoundsException e) {
            return e.getStackTrace()[0].getMethodName().equals("look") ? 1 : 9;
        } catch (NoSuchElementException e) {
            return 2;
        }
    }

    private static void sizes() {
        String[] texts = {"", "person a 1;", "person a 1;person b 2;part p hearer;",
            "person a 1;person b 2;person c 3;person d 4;person e 5;above a b;above b c in 1;level d e;part p hearer*3;"
                + "part q theme-both;part r elder/old;part s time*9999*9999*9999;part t not self;rise gap<>2;season 2;"};
        for (int run = 0; run < 400; run++) {
            CourtTongue x = new CourtTongue();
            read(x, texts[run % texts.length]);
            try {
                for (int call = 0; call < 250; call++) {
                    checks++;
                    if (pick(2) == 0) {
                        callTongue(x);
                    } else {
                        callCourt(x);
                    }
                }
            } catch (RuntimeException e) {
                check("run " + run + " throws " + e, false);
            }
            int people = x.count(0);
            for (int person : SIZES) {
                int due = person < 0 || person >= people ? 1 : 0;
                check("look " + person, look(x, person, 0) == due);
                check("look " + person + " 9", look(x, person, 9) == (due == 1 ? 1 : 2));
            }
        }
    }

    /** Bytes of every kind as a TEXT: an answer each time, and a place in it with a FAULT. */
    private static void bytes() {
        String signs = "person above level part season rise in or and not a b 1 2;;;()<>=+-*/ \n" + (char) 0 + (char) 255;
        for (int run = 0; run < 3000; run++) {
            CourtTongue x = new CourtTongue();
            StringBuilder text = new StringBuilder(run % 2 == 0 ? "" : "person a 1;part p ");
            int length = pick(60);
            for (int i = 0; i < length; i++) {
                text.append(signs.charAt(pick(signs.length())));
            }
            read(x, text.toString());
            boolean faulty = x.fault(0) != 0;
            boolean placed = x.fault(1) >= 0 && x.fault(1) <= text.length();
            check("a fault has its place in " + text, faulty == placed);
        }
    }

    public static void main(String[] args) throws IOException {
        face();
        source();
        sizes();
        bytes();
        System.out.println("FaceTest: " + (checks - wrong) + " of " + checks + " hold, " + Arrays.stream(SIZES).count() + " sizes");
        if (wrong != 0) {
            System.exit(1);
        }
    }
}
