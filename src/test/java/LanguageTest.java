import java.lang.reflect.Constructor;
import java.lang.reflect.Field;
import java.lang.reflect.Method;
import java.lang.reflect.Modifier;
import java.nio.file.Files;
import java.nio.file.Path;
import java.util.ArrayList;
import java.util.Arrays;
import java.util.List;
import java.util.Set;
import java.util.TreeSet;
import java.util.regex.Matcher;
import java.util.regex.Pattern;
import java.util.stream.Collectors;

/** What can be seen of LANGUAGE.md's rules in the text of the program, and in its classes. Runs in the project's folder. */
public final class LanguageTest {
    private static final Path PROGRAM = Path.of("src/main/java/UnlikePens.java");
    private static final Path DOCUMENT = Path.of("../shared/DOC.md");
    private static final Set<String> THROWN = Set.of("IllegalArgumentException", "IndexOutOfBoundsException",
        "ArithmeticException", "NoSuchElementException", "NullPointerException");
    private static int wrong;

    public static void main(String[] args) throws Exception {
        String program = Files.readString(PROGRAM);
        String code = program.replaceAll("(?s)/\\*.*?\\*/", "").replaceAll("//.*", "")
            .replaceAll("\"[^\"\n]*\"", "\"\"");
        checkFace();
        checkClasses();
        checkWords(code);
        checkThrows(code);
        checkMethodLengths(program);
        checkRecursion(code);
        System.out.println(wrong == 0 ? "LanguageTest: nothing against the rules is seen"
            : "LanguageTest: " + wrong + " against the rules");
        System.exit(wrong == 0 ? 0 : 1);
    }

    private static void need(boolean right, String what) {
        if (!right) {
            wrong++;
            System.out.println("LanguageTest: " + what);
        }
    }

    private static void checkFace() throws Exception {
        String document = Files.readString(DOCUMENT);
        String face = document.substring(document.indexOf("```java"), document.indexOf("## Terms"));
        Set<String> due = new TreeSet<>();
        Matcher method = Pattern.compile("public (int|boolean) (\\w+)\\(([^)]*)\\)").matcher(face);
        while (method.find()) {
            int parameters = method.group(3).isBlank() ? 0 : method.group(3).split(",").length;
            due.add(method.group(1) + " " + method.group(2) + " " + parameters);
        }
        need(due.size() == 41, "the document's face has " + due.size() + " methods");
        Set<String> got = new TreeSet<>();
        Set<String> names = new TreeSet<>();
        for (Method one : UnlikePens.class.getDeclaredMethods()) {
            if (Modifier.isPublic(one.getModifiers())) {
                got.add(one.getReturnType() + " " + one.getName() + " " + one.getParameterCount());
                names.add(one.getName());
            }
        }
        need(got.equals(due), "the face is " + got);
        for (Method one : UnlikePens.class.getDeclaredMethods()) {
            boolean open = Modifier.isPublic(one.getModifiers());
            need(open || Modifier.isPrivate(one.getModifiers()) && !names.contains(one.getName()), "1: " + one);
            need(one.getParameterCount() <= 7 || one.getName().equals("would"), "11: " + one);
        }
        for (Field field : UnlikePens.class.getDeclaredFields()) {
            need(Modifier.isPrivate(field.getModifiers()) || field.getName().equals("NONE"), "1: " + field);
        }
        for (Constructor<?> one : UnlikePens.class.getDeclaredConstructors()) {
            need(Modifier.isPublic(one.getModifiers()) && one.getParameterCount() == 0, "1: " + one);
        }
    }

    private static void checkClasses() {
        List<Class<?>> all = new ArrayList<>(List.of(UnlikePens.class));
        all.addAll(Arrays.asList(UnlikePens.class.getDeclaredClasses()));
        need(all.size() <= 12, "11: " + all.size() + " classes");
        for (Class<?> one : all) {
            boolean inside = one != UnlikePens.class;
            need(!inside || Modifier.isPrivate(one.getModifiers()) && Modifier.isStatic(one.getModifiers()), "1: " + one);
            List<Field> own = Arrays.stream(one.getDeclaredFields())
                .filter(field -> !Modifier.isStatic(field.getModifiers())).collect(Collectors.toList());
            need(own.size() <= 20, "11: " + own.size() + " fields in " + one);
            for (Field field : one.getDeclaredFields()) {
                boolean still = Modifier.isStatic(field.getModifiers());
                need(!still || Modifier.isFinal(field.getModifiers()) && Set.of("int", "long", "boolean", "char",
                    "String", "int[]", "long[]", "char[]", "byte[]").contains(field.getType().getSimpleName()),
                    "5: " + field);
            }
            for (Method method : one.getDeclaredMethods()) {
                need(!inside || method.getParameterCount() <= 7, "11: " + method);
                need(!Set.of("equals", "hashCode", "toString").contains(method.getName()), "6: " + method);
            }
        }
    }

    private static void checkWords(String code) {
        for (String against : List.of("\\btry\\b", "\\bcatch\\b", "\\bfinally\\b", "\\bsynchronized\\b", "\\bassert\\b",
            "->", "::", "Exact\\b", "\\bstatic \\{", "\\bvar\\b", "\\bSystem\\.(?!arraycopy)", "\\bDouble\\.", "\\bFloat\\.",
            "\\bprintln\\b", "\\bRandom\\b", "\\bThread\\b", "\\bgetMessage\\b")) {
            need(!Pattern.compile(against).matcher(code).find(), "the text holds " + against);
        }
        List<String> imports = Pattern.compile("import ([^;]+);").matcher(code).results()
            .map(found -> found.group(1)).collect(Collectors.toList());
        need(imports.equals(List.of("java.util.NoSuchElementException")), "4: imports " + imports);
    }

    private static void checkThrows(String code) {
        Matcher thrown = Pattern.compile("\\bthrow\\b([^;]*);").matcher(code);
        while (thrown.find()) {
            Matcher known = Pattern.compile("^ new (\\w+)\\(\"\"\\)$").matcher(thrown.group(1));
            need(known.find() && THROWN.contains(known.group(1)), "6: throw" + thrown.group(1));
        }
    }

    private static void checkMethodLengths(String program) {
        String[] lines = program.split("\n");
        for (int i = 0; i < lines.length; i++) {
            Matcher start = Pattern.compile("^( {4}| {8})(?! )[^=;*/]*\\([^=;]*$").matcher(lines[i]);
            if (start.find()) {
                int end = i;
                while (end < lines.length && !lines[end].equals(start.group(1) + "}")) {
                    end++;
                }
                need(end - i < 60, "11: " + (end - i + 1) + " lines from line " + (i + 1) + " on");
            }
        }
    }

    /** A method that calls itself is private and static; the guard of its depth was read, not tested. */
    private static void checkRecursion(String code) {
        Matcher method = Pattern.compile("(?m)^( {4}| {8})([a-z][\\w\\[\\] ]*) (\\w+)\\([^;{]*\\{$").matcher(code);
        int seen = 0;
        while (method.find()) {
            seen++;
            String body = code.substring(method.end(), code.indexOf("\n" + method.group(1) + "}", method.end()));
            boolean callsItself = Pattern.compile("(?<![.\\w])(this\\.)?" + method.group(3) + "\\(").matcher(body).find();
            need(!callsItself || method.group(2).startsWith("private static "), "8: " + method.group(3));
        }
        need(seen > 100, "only " + seen + " methods are seen");
    }
}
