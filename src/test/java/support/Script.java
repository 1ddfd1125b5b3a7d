package support;

import java.lang.reflect.InvocationTargetException;
import java.lang.reflect.Method;
import java.lang.reflect.Modifier;
import java.util.Arrays;

/**
 * Runs lines of calls on an object. A line is "out(0, 300) = 44", "out(4, 1) throws ArithmeticException",
 * "hut{pen 0 1 1;} = 1" (the text is fed, then the call is made with its length), or "tape{day;}" (fed alone).
 */
public final class Script {
    private final Object object;
    private final String name;
    private int calls;
    private int wrong;

    public Script(Object object, String name) {
        this.object = object;
        this.name = name;
    }

    public Script run(String lines) {
        for (String line : lines.split("\n")) {
            if (!line.isBlank()) {
                runLine(line.strip());
            }
        }
        return this;
    }

    public int wrong() {
        return wrong;
    }

    private void runLine(String line) {
        String call = line;
        if (line.indexOf('{') >= 0 && (line.indexOf('(') < 0 || line.indexOf('{') < line.indexOf('('))) {
            String text = line.substring(line.indexOf('{') + 1, line.lastIndexOf('}'));
            feed(text);
            if (line.startsWith("tape{")) {
                return;
            }
            call = line.substring(0, line.indexOf('{')) + "(" + text.length() + ")"
                + line.substring(line.lastIndexOf('}') + 1);
        }
        int open = call.indexOf('(');
        int close = call.indexOf(')');
        String got = answer(call.substring(0, open), numbers(call.substring(open + 1, close)));
        String due = call.substring(close + 1).strip().replaceFirst("^= ", "");
        if (!got.equals(due)) {
            wrong++;
            System.out.println(name + ": " + line + ", but the answer was " + got);
        }
    }

    private void feed(String text) {
        for (int[] feed : Texts.feeds(text)) {
            answer("feed", feed);
        }
    }

    private static int[] numbers(String list) {
        return list.isBlank() ? new int[0]
            : Arrays.stream(list.split(",")).mapToInt(number -> Integer.parseInt(number.strip())).toArray();
    }

    private String answer(String method, int[] given) {
        calls++;
        if (calls > 512) {
            throw new IllegalStateException(name + ": over 512 calls");
        }
        try {
            return String.valueOf(find(method).invoke(object, Arrays.stream(given).boxed().toArray()));
        } catch (InvocationTargetException e) {
            return "throws " + e.getCause().getClass().getSimpleName();
        } catch (IllegalAccessException e) {
            throw new IllegalStateException(e);
        }
    }

    private Method find(String method) {
        return Arrays.stream(object.getClass().getDeclaredMethods())
            .filter(one -> one.getName().equals(method) && Modifier.isPublic(one.getModifiers()))
            .findFirst().orElseThrow();
    }
}
