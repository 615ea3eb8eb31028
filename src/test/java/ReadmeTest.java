import java.io.IOException;
import java.lang.reflect.InvocationTargetException;
import java.lang.reflect.Method;
import java.lang.reflect.Modifier;
import java.nio.file.Files;
import java.nio.file.Path;
import java.util.regex.Matcher;
import java.util.regex.Pattern;

/** The calls that README.md shows, one after the other, answer as it says there; each call of the face is told there. */
public final class ReadmeTest extends CourtCheck {
    private static final Pattern TEXT = Pattern.compile("(?m)(?:^    (?:person|above|level|part|season|rise) .*;\n)+");
    private static final Pattern CALL = Pattern.compile("(?m)^    court\\.(\\w+)\\(([-0-9, ]*)\\); +// (-?\\d+|true|false): .*$");

    private static long answer(CourtTongue x, String name, int[] given) throws ReflectiveOperationException {
        for (Method method : CourtTongue.class.getMethods()) {
            if (method.getName().equals(name) && method.getParameterCount() == given.length) {
                Object[] boxed = new Object[given.length];
                for (int i = 0; i < given.length; i++) {
                    boxed[i] = given[i];
                }
                Object answer = method.invoke(x, boxed);
                return answer instanceof Boolean truth ? (truth ? 1 : 0) : ((Number) answer).longValue();
            }
        }
        throw new NoSuchMethodException(name);
    }

    private static int[] numbers(String told) {
        String[] pieces = told.isBlank() ? new String[0] : told.split(", *");
        int[] numbers = new int[pieces.length];
        for (int i = 0; i < pieces.length; i++) {
            numbers[i] = Integer.parseInt(pieces[i].strip());
        }
        return numbers;
    }

    private static long meant(String told) {
        return told.equals("true") ? 1 : told.equals("false") ? 0 : Long.parseLong(told);
    }

    private static void examples(String page) {
        Matcher text = TEXT.matcher(page);
        yes("a TEXT stands there", text.find());
        CourtTongue x = new CourtTongue();
        due("its LINES", read(x, text.group().strip()), 10);
        Matcher call = CALL.matcher(page);
        int calls = 0;
        while (call.find()) {
            calls++;
            String what = call.group(1) + "(" + call.group(2) + ")";
            try {
                due(what, answer(x, call.group(1), numbers(call.group(2))), meant(call.group(3)));
            } catch (InvocationTargetException e) {
                due(what + " threw " + e.getCause(), 1, 0);
            } catch (ReflectiveOperationException e) {
                due(what + " is a call", 0, 1);
            }
        }
        due("lines with a call", calls, page.split("\n    court\\.\\w+\\([-0-9, ]*\\);", -1).length - 1);
        yes("more than some calls", calls > 20);
    }

    private static void everyCallIsTold(String page) {
        for (Method method : CourtTongue.class.getDeclaredMethods()) {
            if (Modifier.isPublic(method.getModifiers())) {
                yes("`" + method.getName() + "` is told", page.contains("`" + method.getName() + "("));
            }
        }
    }

    public static void main(String[] args) throws IOException {
        test = "README.md";
        String page = Files.readString(Path.of("README.md"));
        examples(page);
        everyCallIsTold(page);
        finish(ReadmeTest.class);
    }
}
