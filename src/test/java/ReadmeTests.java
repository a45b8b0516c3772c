import java.lang.reflect.Method;
import java.lang.reflect.Modifier;
import java.util.regex.Matcher;
import java.util.regex.Pattern;

/** README.md's example: each call on x answers what the first word of its comment says. */
final class ReadmeTests {
    private static final Pattern CALL = Pattern.compile("(?m)^x\\.(\\w+)\\((.*?)\\); +// (true|-?\\d+)\\b");

    private ReadmeTests() {
    }

    static void all(String readme) throws ReflectiveOperationException {
        Check.due("readme: made for three facts", readme.contains("CoalForm x = new CoalForm(3);"), true);
        CoalForm x = new CoalForm(3);
        Matcher call = CALL.matcher(readme);
        int calls = 0;
        while (call.find()) {
            long due = call.group(3).equals("true") ? 1 : Long.parseLong(call.group(3));
            Check.due("readme: " + call.group(), answer(x, call.group(1), call.group(2).split(", ")), due);
            calls++;
        }
        long lines = readme.lines().filter(line -> line.startsWith("x.")).count();
        Check.due("readme: each line on x is a call with its answer", calls > 0 && calls == lines, true);
        for (Method method : CoalForm.class.getDeclaredMethods()) {
            boolean hidden = !Modifier.isPublic(method.getModifiers());
            Check.due("readme: names " + method, hidden || readme.contains("`" + method.getName() + "`"), true);
        }
    }

    private static long answer(CoalForm x, String name, String[] numbers) throws ReflectiveOperationException {
        for (Method method : CoalForm.class.getDeclaredMethods()) {
            if (method.getName().equals(name)) {
                Object[] arguments = new Object[numbers.length];
                for (int k = 0; k < numbers.length; k++) {
                    arguments[k] = numbers[k].equals("CoalForm.NONE") ? CoalForm.NONE : Integer.decode(numbers[k]);
                }
                Object answer = method.invoke(x, arguments);
                return answer instanceof Boolean is ? Edge.yes(is) : ((Number) answer).longValue();
            }
        }
        throw new NoSuchMethodException(name);
    }
}
