import java.lang.reflect.InvocationTargetException;
import java.lang.reflect.Method;
import java.util.ArrayList;
import java.util.Arrays;
import java.util.List;
import java.util.Random;
import java.util.Set;
import support.PensModel;
import support.Texts;

/** Long runs of calls, the same at each time, on UnlikePens and on the model: all answers must be alike. */
public final class ModelTest {
    private static final int RUNS = 700;
    private static final int CALLS = 512;
    private static final String[] NAMES = {"fault", "undo", "told", "pen", "wire", "record", "out", "level", "would",
        "total", "strange", "extreme", "through", "kept", "gives", "worst", "best", "hop", "tuning", "ring", "fits",
        "look", "ready", "latest", "alike", "chained", "liar", "reach", "room", "season", "span", "image", "restore",
        "status", "count"};

    private static final String[] BACK = {"undo", "undo", "undo", "image", "restore", "total", "record", "pen", "told"};
    private static final Set<String> OWN_TEXTS = Set.of("no such pen or wire", "no such argument", "no such number",
        "no such record", "the pen has no sheet");

    private final Random random;
    private final UnlikePens pens = new UnlikePens();
    private final PensModel model = new PensModel();
    private final List<String> told = new ArrayList<>();
    private int calls;
    private int penCount;
    private int wireCount;

    private ModelTest(long seed) {
        random = new Random(seed);
    }

    public static void main(String[] args) {
        int runs = args.length > 0 ? Integer.parseInt(args[0]) : RUNS;
        long first = args.length > 1 ? Long.parseLong(args[1]) : 1;
        for (long seed = first; seed < first + runs; seed++) {
            ModelTest test = new ModelTest(seed);
            if (!test.agrees()) {
                System.out.println("seed " + seed + ":");
                test.told.stream().skip(Math.max(0, test.told.size() - 40)).forEach(System.out::println);
                System.exit(1);
            }
        }
        System.out.println("ModelTest: " + runs + " runs are alike");
    }

    private boolean agrees() {
        if (random.nextInt(20) > 0 && !text("hut", hut())) {
            return false;
        }
        while (calls < CALLS) {
            int dice = random.nextInt(100);
            boolean same;
            if (dice < 2) {
                same = text("hut", hut());
            } else if (dice < 14) {
                same = text("work", mutated(work()));
            } else if (dice < 18) {
                same = text("law", mutated(sum(0)));
            } else if (dice < 21) {
                same = text("chain", mutated(chain()));
            } else if (dice < 24) {
                same = text("book", mutated(book()));
            } else if (dice < 36) {
                same = ask(BACK[random.nextInt(BACK.length)]);
            } else {
                same = ask(NAMES[random.nextInt(NAMES.length)]);
            }
            if (!same) {
                return false;
            }
        }
        return true;
    }

    private boolean text(String name, String text) {
        for (int[] feed : Texts.feeds(text)) {
            if (!both("feed", feed[0], feed[1], feed[2], feed[3], feed[4])) {
                return false;
            }
        }
        told.add("  text " + text);
        int n = random.nextInt(40) == 0 ? random.nextInt(700) - 20 : text.length();
        return both(name, n) && both("fault");
    }

    private boolean ask(String name) {
        Method method = methodOf(UnlikePens.class, name);
        int[] given = new int[method.getParameterCount()];
        for (int i = 0; i < given.length; i++) {
            given[i] = argument(name, i);
        }
        return both(name, given);
    }

    private int argument(String name, int i) {
        if (random.nextInt(60) == 0) {
            return random.nextInt(9) - 2;
        }
        switch (name) {
            case "told":
                return random.nextInt(12) - (random.nextInt(30) == 0 ? 1 : 0);
            case "pen":
                return i == 0 ? somePen() : random.nextInt(7);
            case "wire":
                return i == 0 ? random.nextInt(wireCount + 1) : random.nextInt(2);
            case "record":
                return i == 0 ? somePen() : random.nextInt(5);
            case "would":
                return wouldArgument(i);
            case "kept":
                return i == 0 ? reading() : random.nextInt(300);
            case "gives":
                return i == 2 ? random.nextInt(300) : reading();
            case "worst":
                return i == 0 ? reading() : i == 1 ? random.nextInt(200) : random.nextInt(2);
            case "best":
                return i < 2 ? somePen() : i == 2 ? reading() : random.nextInt(2);
            case "hop":
                return i < 2 ? somePen() : i == 2 ? reading() : random.nextInt(4);
            case "tuning":
                return i == 0 ? somePen() : i == 1 ? reading() : random.nextInt(2) == 0 ? random.nextInt(500) : reading();
            case "ring":
                return i == 0 ? somePen() : i == 1 ? reading() : random.nextInt(2);
            case "season":
                return new int[] {random.nextInt(), 1 + random.nextInt(97), random.nextInt(18), random.nextInt(3)}[i];
            case "span":
                return new int[] {random.nextInt(), 1 + random.nextInt(10), 1 + random.nextInt(40),
                    random.nextInt(17), random.nextInt(3), somePen()}[i];
            case "out":
            case "level":
                return i == 0 ? somePen() : reading();
            case "through":
            case "ready":
                return reading();
            case "liar":
                return i == 0 ? reading() : random.nextInt(2);
            case "strange":
            case "extreme":
                return i == 0 ? somePen() : random.nextInt(2);
            case "total":
            case "latest":
            case "alike":
            case "reach":
                return somePen();
            case "chained":
                return random.nextInt(9) - (random.nextInt(9) == 0 ? 1 : 0);
            case "look":
                return random.nextInt(2);
            default:
                return random.nextInt(8) - 1;
        }
    }

    private int wouldArgument(int i) {
        switch (i) {
            case 0:
            case 1:
                return reading();
            case 2:
                return random.nextInt(20) == 0 ? -1 : random.nextInt() & Integer.MAX_VALUE;
            case 3:
                return random.nextInt(25) + random.nextInt(30) / 29;
            case 4:
                return random.nextInt(901) + random.nextInt(30) / 29;
            case 5:
                return random.nextInt(8) + random.nextInt(30) / 29;
            default:
                return random.nextInt(100) + random.nextInt(30) / 29;
        }
    }

    private int somePen() {
        return random.nextInt(30) == 0 ? random.nextInt(10) - 1 : random.nextInt(Math.max(1, penCount));
    }

    private int reading() {
        switch (random.nextInt(8)) {
            case 0:
                return random.nextInt();
            case 1:
                return -random.nextInt(1000);
            case 2:
                return random.nextInt(70000);
            case 3:
                return random.nextBoolean() ? Integer.MAX_VALUE - random.nextInt(3) : Integer.MIN_VALUE + random.nextInt(3);
            case 4:
                return 1 << random.nextInt(32);
            default:
                return random.nextInt(300);
        }
    }

    private static Method methodOf(Class<?> of, String name) {
        return Arrays.stream(of.getDeclaredMethods()).filter(method -> method.getName().equals(name)
            && java.lang.reflect.Modifier.isPublic(method.getModifiers())).findFirst().orElseThrow();
    }

    private boolean both(String name, int... given) {
        calls++;
        Object one = answer(pens, name, given);
        Object other = answer(model, name, given);
        told.add(name + Arrays.toString(given) + " answered " + one + ", the model " + other);
        if (name.equals("hut") && one instanceof Integer number && number >= 0) {
            penCount = model.told(0);
            wireCount = model.told(1);
        }
        return one.equals(other);
    }

    private Object answer(Object object, String name, int[] given) {
        Object[] boxed = Arrays.stream(given).boxed().toArray();
        try {
            return methodOf(object.getClass(), name).invoke(object, boxed);
        } catch (InvocationTargetException e) {
            RuntimeException thrown = (RuntimeException) e.getCause();
            if (object == model) {
                model.refused(thrown);
                return modelReason(thrown);
            }
            return reason(thrown);
        } catch (IllegalAccessException e) {
            return e;
        }
    }

    /** In the model, the machine itself may throw, and then more narrowly than the document says. */
    private static String modelReason(RuntimeException thrown) {
        return thrown instanceof IndexOutOfBoundsException ? "IndexOutOfBoundsException"
            : thrown.getClass().getSimpleName();
    }

    /** What the machine itself throws bears none of the program's own texts. */
    private static String reason(RuntimeException thrown) {
        boolean own = OWN_TEXTS.contains(String.valueOf(thrown.getMessage()));
        return own ? thrown.getClass().getSimpleName() : "the machine's " + thrown;
    }

    // ---- texts

    private String hut() {
        StringBuilder text = new StringBuilder();
        int pens = random.nextInt(9) + random.nextInt(40) / 39;
        int wires = pens < 2 ? 0 : random.nextInt(17) + random.nextInt(40) / 39;
        for (int i = 0; i < pens; i++) {
            text.append("pen ").append(random.nextInt(8)).append(blanks()).append(small(99)).append(blanks())
                .append(small(99)).append(";");
        }
        for (int i = 0; i < wires; i++) {
            int a = random.nextInt(pens);
            text.append("wire ").append(a).append(blanks())
                .append((a + 1 + random.nextInt(pens - 1)) % pens).append(";");
        }
        if (random.nextInt(3) > 0) {
            text.append("sheet ").append(random.nextInt(4) > 0 ? random.nextInt(6) : random.nextInt(25)).append(";");
        }
        return random.nextInt(6) == 0 ? mutated(text.toString()) : text.toString();
    }

    private int small(int most) {
        int dice = random.nextInt(10);
        return dice == 0 ? 0 : dice < 6 ? 1 + random.nextInt(4) : random.nextInt(most + 1);
    }

    private String blanks() {
        return random.nextInt(20) == 0 ? "   " : " ";
    }

    private String mutated(String text) {
        if (random.nextInt(5) > 0) {
            return text;
        }
        StringBuilder changed = new StringBuilder(text);
        String signs = " ;[](),+-*/%0123456789adgihnorpesmut\u00e9\u0000A";
        for (int i = random.nextInt(3); i >= 0; i--) {
            char sign = signs.charAt(random.nextInt(signs.length()));
            int at = random.nextInt(changed.length() + 1);
            int dice = random.nextInt(4);
            if (dice == 0 || changed.length() == 0 || at == changed.length()) {
                changed.insert(at, sign);
            } else if (dice == 1) {
                changed.setCharAt(at, sign);
            } else if (dice == 2) {
                changed.deleteCharAt(at);
            } else {
                changed.setLength(at);
            }
        }
        return changed.toString();
    }

    private String work() {
        StringBuilder text = new StringBuilder();
        int most = random.nextInt(10) == 0 ? 150 : 20 + random.nextInt(120);
        for (int i = random.nextInt(14); i >= 0; i--) {
            String step = step(0);
            if (text.length() + step.length() <= most) {
                text.append(step);
            }
        }
        return text.toString();
    }

    private String step(int open) {
        int p = somePen();
        switch (random.nextInt(14)) {
            case 0:
            case 1:
            case 2:
                return "read " + p + " " + workReading() + ";";
            case 3:
                return "below " + p + blanks() + workReading() + ";";
            case 4:
            case 5:
                return "hear " + random.nextInt(Math.max(1, wireCount)) + ";";
            case 6:
                return "wipe " + p + ";";
            case 7:
                return random.nextBoolean() ? "tear " + p + ";" : "day;";
            case 8:
                return "lay " + p + " " + random.nextInt(10) + " " + random.nextInt(6) + ";";
            case 9:
                return "copy " + p + " " + somePen() + " " + random.nextInt(6) + ";";
            case 10:
                return "tune " + p + " " + small(99) + " " + small(99) + ";";
            case 11:
                return "day ;";
            default:
                StringBuilder body = new StringBuilder();
                for (int i = random.nextInt(3); i > 0; i--) {
                    body.append(open < 8 ? step(open + 1) : "day;");
                }
                return "again " + (random.nextInt(5) == 0 ? random.nextInt(62) : random.nextInt(5)) + "[" + body + "];";
        }
    }

    private int workReading() {
        int dice = random.nextInt(10);
        return dice < 4 ? random.nextInt(200) : dice < 6 ? random.nextInt(100000) : random.nextInt(100000000);
    }

    private String sum(int open) {
        StringBuilder text = new StringBuilder(unit(open));
        for (int i = random.nextInt(4); i > 0; i--) {
            text.append(blanks(), 0, random.nextInt(2)).append("+-*/%".charAt(random.nextInt(5))).append(unit(open));
        }
        return text.length() > 150 && open == 0 ? "loss" : text.toString();
    }

    private String unit(int open) {
        int dice = random.nextInt(10);
        if (open >= 8 || dice < 3) {
            return String.valueOf(random.nextInt(9) == 0 ? random.nextInt(1001) : random.nextInt(60));
        }
        if (dice < 7) {
            String[] words = {"in", "out", "loss", "many", "day", "pen", "mul", "div"};
            return words[random.nextInt(8)];
        }
        if (dice < 9) {
            return "(" + sum(open + 1) + ")";
        }
        return (random.nextBoolean() ? "least[" : "most [") + sum(open + 1) + "," + sum(open + 1) + "]";
    }

    private String chain() {
        StringBuilder text = new StringBuilder();
        for (int i = random.nextInt(random.nextInt(10) == 0 ? 15 : 4); i > 0; i--) {
            text.append(somePen()).append(blanks(), 0, random.nextInt(2)).append(";");
        }
        return text.toString();
    }

    private String book() {
        StringBuilder text = new StringBuilder();
        for (int i = random.nextInt(random.nextInt(8) == 0 ? 8 : 4); i > 0; i--) {
            int v = random.nextInt(random.nextInt(30) == 0 ? 10001 : 20);
            int n = random.nextInt(random.nextInt(10) == 0 ? 10000001 : 10);
            if (penCount > 0 && random.nextInt(3) > 0) {
                int pen = random.nextInt(penCount);
                n = answer(model, "out", new int[] {pen, v}) instanceof Integer out ? Math.abs(out) : n;
                // The model counts a call that only it was asked, so the object is asked, too.
                answer(pens, "out", new int[] {pen, v});
                calls++;
            }
            text.append(v).append(" ").append(n).append(";");
        }
        return text.toString();
    }
}
