package support;

import java.lang.reflect.Array;
import java.util.ArrayDeque;
import java.util.ArrayList;
import java.util.Arrays;
import java.util.Deque;
import java.util.HashMap;
import java.util.HashSet;
import java.util.List;
import java.util.Map;
import java.util.NoSuchElementException;
import java.util.Set;

/**
 * The document told once more, in the plainest way and with all of Java: real arrays as SHEETS, real
 * NaN and infinities, trees as texts. ModelTest holds UnlikePens against it.
 */
public final class PensModel {
    private static final Class<?>[] KINDS = {byte.class, short.class, char.class, int.class, long.class,
        float.class, double.class, boolean.class};

    static final class Fault extends RuntimeException {
        final int kind;
        final int place;

        Fault(int kind, int place) {
            super(null, null, false, false);
            this.kind = kind;
            this.place = place;
        }
    }

    record Token(char type, String text, int place) { }

    record Clause(String word, int[] numbers) { }

    record Step(String word, int[] numbers, List<Step> body) { }

    interface Value {
        int of(Map<String, Integer> given);
    }

    static final class Sheeted implements Cloneable {
        int kind;
        int mul;
        int div;
        Object sheet;
        int many;

        Sheeted copy() {
            Sheeted twin = new Sheeted();
            twin.kind = kind;
            twin.mul = mul;
            twin.div = div;
            twin.many = many;
            if (sheet != null) {
                int length = Array.getLength(sheet);
                twin.sheet = Array.newInstance(KINDS[kind], length);
                System.arraycopy(sheet, 0, twin.sheet, 0, length);
            }
            return twin;
        }
    }

    static final class World {
        List<Sheeted> pens = new ArrayList<>();
        int day;
        int alarms;
        int readings;

        World copy() {
            World twin = new World();
            for (Sheeted pen : pens) {
                twin.pens.add(pen.copy());
            }
            twin.day = day;
            twin.alarms = alarms;
            twin.readings = readings;
            return twin;
        }
    }

    record Picture(World world, List<World> past) { }

    private final List<Integer> tape = new ArrayList<>();
    private World world = new World();
    private List<int[]> wires = new ArrayList<>();
    private Value law = given -> given.get("loss");
    private List<Integer> chain = new ArrayList<>();
    private List<int[]> book = new ArrayList<>();
    private List<World> past = new ArrayList<>();
    private final Deque<Picture> pictures = new ArrayDeque<>();
    private int faultPlace = -1;
    private int refusedSteps;
    private final int[] status = new int[5];

    // ---- texts

    private static List<Token> tokens(List<Integer> text) {
        List<Token> found = new ArrayList<>();
        int i = 0;
        while (i < text.size()) {
            int c = text.get(i);
            int first = i;
            if (c == 32) {
                i++;
            } else if (c >= 97 && c <= 122) {
                StringBuilder word = new StringBuilder();
                while (i < text.size() && text.get(i) >= 97 && text.get(i) <= 122) {
                    word.append((char) (int) text.get(i++));
                }
                found.add(new Token('w', word.toString(), first));
            } else if (c >= 48 && c <= 57) {
                StringBuilder digits = new StringBuilder();
                while (i < text.size() && text.get(i) >= 48 && text.get(i) <= 57) {
                    digits.append((char) (int) text.get(i++));
                }
                found.add(new Token('n', digits.toString(), first));
            } else {
                found.add(new Token('s', String.valueOf((char) c), first));
                i++;
            }
        }
        found.add(new Token('e', "", text.size()));
        return found;
    }

    private static final class Parser {
        final List<Token> tokens;
        int at;

        Parser(List<Integer> text) {
            tokens = tokens(text);
        }

        Token here() {
            return tokens.get(at);
        }

        boolean is(String sign) {
            return here().type() == 's' && here().text().equals(sign);
        }

        boolean ended() {
            return here().type() == 'e';
        }

        void sign(String sign) {
            if (!is(sign)) {
                throw new Fault(1, here().place());
            }
            at++;
        }

        String word(Set<String> words) {
            if (here().type() != 'w' || !words.contains(here().text())) {
                throw new Fault(1, here().place());
            }
            return tokens.get(at++).text();
        }

        int number(long most) {
            if (here().type() != 'n') {
                throw new Fault(1, here().place());
            }
            java.math.BigInteger number = new java.math.BigInteger(here().text());
            if (number.compareTo(java.math.BigInteger.valueOf(most)) > 0) {
                throw new Fault(2, here().place());
            }
            at++;
            return number.intValue();
        }
    }

    private void need(boolean right) {
        if (!right) {
            throw new IllegalArgumentException();
        }
    }

    private List<Integer> text(int n, int most) {
        need(n >= 0 && n <= tape.size() && n <= most);
        List<Integer> text = new ArrayList<>(tape.subList(0, n));
        tape.clear();
        faultPlace = -1;
        return text;
    }

    private int faulty(Fault fault) {
        faultPlace = fault.place;
        return fault.kind - 10;
    }

    public int feed(int a, int b, int c, int d, int e) {
        if (tape.size() + 20 > 600) {
            return -1;
        }
        for (int number : new int[] {a, b, c, d, e}) {
            tape.add(number >>> 24);
            tape.add(number >>> 16 & 255);
            tape.add(number >>> 8 & 255);
            tape.add(number & 255);
        }
        return tape.size();
    }

    public int hut(int n) {
        List<Integer> text = text(n, 600);
        try {
            parseHut(new Parser(text));
        } catch (Fault fault) {
            return faulty(fault);
        }
        law = given -> given.get("loss");
        chain = new ArrayList<>();
        book = new ArrayList<>();
        past = new ArrayList<>();
        pictures.clear();
        refusedSteps = 0;
        return world.pens.size();
    }

    private void parseHut(Parser parser) {
        World fresh = new World();
        List<int[]> freshWires = new ArrayList<>();
        int sheet = 8;
        int clauses = 0;
        while (!parser.ended()) {
            int place = parser.here().place();
            String word = parser.word(Set.of("pen", "wire", "sheet"));
            clauses++;
            if (clauses == 61 || word.equals("pen") && fresh.pens.size() == 8
                    || word.equals("wire") && freshWires.size() == 16) {
                throw new Fault(3, place);
            }
            if (word.equals("pen")) {
                Sheeted pen = new Sheeted();
                pen.kind = parser.number(7);
                pen.mul = parser.number(99);
                pen.div = parser.number(99);
                fresh.pens.add(pen);
            } else if (word.equals("wire")) {
                int a = parser.number(fresh.pens.size() - 1);
                int second = parser.here().place();
                int b = parser.number(fresh.pens.size() - 1);
                if (a == b) {
                    throw new Fault(2, second);
                }
                freshWires.add(new int[] {a, b});
            } else {
                sheet = parser.number(24);
            }
            parser.sign(";");
        }
        for (Sheeted pen : fresh.pens) {
            pen.sheet = Array.newInstance(KINDS[pen.kind], sheet);
        }
        world = fresh;
        wires = freshWires;
    }

    public int law(int n) {
        List<Integer> text = text(n, 150);
        try {
            Parser parser = new Parser(text);
            Value read = sum(parser, 0);
            if (!parser.ended()) {
                throw new Fault(1, parser.here().place());
            }
            law = read;
            return 1;
        } catch (Fault fault) {
            return faulty(fault);
        }
    }

    private Value sum(Parser parser, int open) {
        Value value = product(parser, open);
        while (parser.is("+") || parser.is("-")) {
            boolean plus = parser.is("+");
            parser.at++;
            Value one = value;
            Value other = product(parser, open);
            value = given -> plus ? one.of(given) + other.of(given) : one.of(given) - other.of(given);
        }
        return value;
    }

    private Value product(Parser parser, int open) {
        Value value = unit(parser, open);
        while (parser.is("*") || parser.is("/") || parser.is("%")) {
            String sign = parser.here().text();
            parser.at++;
            Value one = value;
            Value other = unit(parser, open);
            value = given -> {
                int a = one.of(given);
                int b = other.of(given);
                if (sign.equals("*")) {
                    return a * b;
                }
                if (b == 0) {
                    return 0;
                }
                return sign.equals("/") ? a / b : a % b;
            };
        }
        return value;
    }

    private Value unit(Parser parser, int open) {
        Token token = parser.here();
        if (token.type() == 'n') {
            int number = parser.number(999);
            return given -> number;
        }
        if (parser.is("(")) {
            if (open == 6) {
                throw new Fault(3, token.place());
            }
            parser.at++;
            Value inner = sum(parser, open + 1);
            parser.sign(")");
            return inner;
        }
        String word = parser.word(Set.of("in", "out", "loss", "many", "day", "pen", "mul", "div", "least", "most"));
        if (!word.equals("least") && !word.equals("most")) {
            return given -> given.get(word);
        }
        if (open == 6) {
            throw new Fault(3, token.place());
        }
        parser.sign("[");
        Value one = sum(parser, open + 1);
        parser.sign(",");
        Value other = sum(parser, open + 1);
        parser.sign("]");
        return given -> word.equals("least") ? Math.min(one.of(given), other.of(given))
            : Math.max(one.of(given), other.of(given));
    }

    public int chain(int n) {
        List<Integer> text = text(n, 60);
        try {
            Parser parser = new Parser(text);
            List<Integer> read = new ArrayList<>();
            while (!parser.ended()) {
                int place = parser.here().place();
                int pen = parser.number(world.pens.size() - 1);
                if (read.size() == 12) {
                    throw new Fault(3, place);
                }
                read.add(pen);
                parser.sign(";");
            }
            chain = read;
            return chain.size();
        } catch (Fault fault) {
            return faulty(fault);
        }
    }

    public int book(int n) {
        List<Integer> text = text(n, 60);
        try {
            Parser parser = new Parser(text);
            List<int[]> read = new ArrayList<>();
            while (!parser.ended()) {
                int place = parser.here().place();
                int v = parser.number(9999);
                if (read.size() == 6) {
                    throw new Fault(3, place);
                }
                read.add(new int[] {v, parser.number(9999999)});
                parser.sign(";");
            }
            book = read;
            return book.size();
        } catch (Fault fault) {
            return faulty(fault);
        }
    }

    public int fault() {
        return faultPlace;
    }

    // ---- work

    private int begun;
    private int done;
    private int refusedNow;

    public int work(int n) {
        List<Integer> text;
        need(n >= 0 && n <= tape.size() && n <= 150);
        if (past.size() == 16) {
            tape.clear();
            faultPlace = -1;
            return -20;
        }
        text = text(n, 150);
        List<Step> steps;
        try {
            Parser parser = new Parser(text);
            steps = steps(parser, 0);
            if (!parser.ended()) {
                throw new Fault(1, parser.here().place());
            }
        } catch (Fault fault) {
            return faulty(fault);
        }
        past.add(world.copy());
        begun = 0;
        done = 0;
        refusedNow = 0;
        run(steps);
        refusedSteps = refusedNow;
        return done;
    }

    private List<Step> steps(Parser parser, int open) {
        List<Step> steps = new ArrayList<>();
        while (!parser.ended() && !parser.is("]")) {
            steps.add(step(parser, open));
        }
        return steps;
    }

    private Step step(Parser parser, int open) {
        int place = parser.here().place();
        String word = parser.word(Set.of("read", "below", "hear", "wipe", "tear", "lay", "copy", "tune", "day",
            "again"));
        int lastPen = world.pens.size() - 1;
        int[] numbers = new int[3];
        List<Step> body = null;
        switch (word) {
            case "read", "below" -> {
                numbers[0] = parser.number(lastPen);
                numbers[1] = parser.number(99_999_999);
            }
            case "hear" -> numbers[0] = parser.number(wires.size() - 1);
            case "wipe", "tear" -> numbers[0] = parser.number(lastPen);
            case "lay" -> {
                numbers[0] = parser.number(lastPen);
                numbers[1] = parser.number(24);
                numbers[2] = parser.number(24);
            }
            case "copy" -> {
                numbers[0] = parser.number(lastPen);
                numbers[1] = parser.number(lastPen);
                numbers[2] = parser.number(24);
            }
            case "tune" -> {
                numbers[0] = parser.number(lastPen);
                numbers[1] = parser.number(99);
                numbers[2] = parser.number(99);
            }
            case "again" -> {
                if (open == 6) {
                    throw new Fault(3, place);
                }
                numbers[0] = parser.number(60);
                parser.sign("[");
                body = steps(parser, open + 1);
                parser.sign("]");
            }
            default -> { }
        }
        parser.sign(";");
        return new Step(word, numbers, body);
    }

    private void run(List<Step> steps) {
        for (Step step : steps) {
            if (begun == 200) {
                return;
            }
            begun++;
            if (step.body() != null) {
                for (int i = 0; i < step.numbers()[0]; i++) {
                    run(step.body());
                }
            } else if (isDone(step)) {
                done++;
            } else {
                refusedNow++;
            }
        }
    }

    private boolean isDone(Step step) {
        int a = step.numbers()[0];
        int b = step.numbers()[1];
        int c = step.numbers()[2];
        List<Sheeted> pens = world.pens;
        switch (step.word()) {
            case "read":
                return write(a, b);
            case "below":
                return write(a, 0 - b);
            case "hear":
                return hear(a);
            case "wipe":
                if (pens.get(a).many == 0) {
                    return false;
                }
                pens.get(a).many = 0;
                pens.get(a).sheet = Array.newInstance(KINDS[pens.get(a).kind], Array.getLength(pens.get(a).sheet));
                return true;
            case "tear":
                if (pens.get(a).sheet == null) {
                    return false;
                }
                pens.get(a).many = 0;
                pens.get(a).sheet = null;
                return true;
            case "lay":
                if (b < c) {
                    return false;
                }
                pens.get(a).many = 0;
                pens.get(a).sheet = Array.newInstance(KINDS[pens.get(a).kind], b - c);
                return true;
            case "copy":
                return copy(pens.get(a), pens.get(b), c);
            case "tune":
                if (pens.get(a).mul == b && pens.get(a).div == c) {
                    return false;
                }
                pens.get(a).mul = b;
                pens.get(a).div = c;
                return true;
            default:
                if (world.day >= 900) {
                    return false;
                }
                endDay();
                return true;
        }
    }

    private boolean copy(Sheeted from, Sheeted to, int n) {
        try {
            System.arraycopy(from.sheet, 0, to.sheet, 0, n);
        } catch (NullPointerException | ArrayStoreException | IndexOutOfBoundsException e) {
            return false;
        }
        to.many = Math.max(to.many, Math.min(from.many, n));
        return true;
    }

    private void endDay() {
        for (Sheeted pen : world.pens) {
            if (pen.many > 0) {
                Object moved = Array.newInstance(KINDS[pen.kind], Array.getLength(pen.sheet));
                System.arraycopy(pen.sheet, 1, moved, 0, pen.many - 1);
                pen.sheet = moved;
                pen.many--;
            }
        }
        world.day++;
    }

    private boolean write(int pen, int v) {
        Sheeted p = world.pens.get(pen);
        if (p.sheet == null || p.many >= Array.getLength(p.sheet)) {
            return false;
        }
        Object taken;
        try {
            taken = taken(p.kind, v, p.mul, p.div);
        } catch (ArithmeticException e) {
            return false;
        }
        if (levelNow(pen, v) >= 50) {
            world.alarms++;
        }
        Array.set(p.sheet, p.many, taken);
        p.many++;
        world.readings++;
        return true;
    }

    private boolean hear(int wire) {
        Sheeted a = world.pens.get(wires.get(wire)[0]);
        return a.many > 0 && write(wires.get(wire)[1], read(Array.get(a.sheet, a.many - 1)));
    }

    private static Object taken(int kind, int v, int m, int d) {
        switch (kind) {
            case 0:
                return (byte) (v * m / d);
            case 1:
                return (short) (v * m / d);
            case 2:
                return (char) (v * m / d);
            case 3:
                return v * m / d;
            case 4:
                return (long) v * m / d;
            case 5:
                return (float) v * m / d;
            case 6:
                return (double) v * m / d;
            default:
                return (v * m + d) % 2 != 0;
        }
    }

    private static int read(Object taken) {
        if (taken instanceof Boolean b) {
            return b ? 1 : 0;
        }
        if (taken instanceof Character c) {
            return c;
        }
        return ((Number) taken).intValue();
    }

    private int outNow(int pen, int v) {
        Sheeted p = world.pens.get(pen);
        return read(taken(p.kind, v, p.mul, p.div));
    }

    private boolean jams(int pen) {
        return world.pens.get(pen).kind < 5 && world.pens.get(pen).div == 0;
    }

    private static int far(int a, int b) {
        return (int) Math.min(Integer.MAX_VALUE, Math.abs((long) a - b));
    }

    private int levelNow(int pen, int v) {
        Sheeted p = world.pens.get(pen);
        int out = jams(pen) ? 0 : outNow(pen, v);
        int loss = jams(pen) ? 0 : far(v, out);
        return levelOf(v, out, loss, p.many, world.day, pen, p.mul, p.div);
    }

    private int levelOf(int... given) {
        Map<String, Integer> row = new HashMap<>();
        String[] names = {"in", "out", "loss", "many", "day", "pen", "mul", "div"};
        for (int i = 0; i < names.length; i++) {
            row.put(names[i], given[i]);
        }
        return Math.min(99, Math.max(0, law.of(row)));
    }

    // ---- what is asked

    public int undo() {
        if (past.isEmpty()) {
            return -1;
        }
        world = past.remove(past.size() - 1);
        refusedSteps = 0;
        return past.size();
    }

    private void needPen(int pen) {
        if (pen < 0 || pen >= world.pens.size()) {
            throw new NoSuchElementException();
        }
    }

    public int told(int what) {
        need(what >= 0 && what <= 10);
        int sheets = 0;
        int records = 0;
        int jammed = 0;
        for (int i = 0; i < world.pens.size(); i++) {
            sheets += world.pens.get(i).sheet != null ? 1 << i : 0;
            records += world.pens.get(i).many;
            jammed += jams(i) ? 1 << i : 0;
        }
        return new int[] {world.pens.size(), wires.size(), world.day, sheets, records, world.alarms, world.readings,
            chain.size(), book.size(), refusedSteps, jammed}[what];
    }

    public int pen(int pen, int what) {
        needPen(pen);
        need(what >= 0 && what <= 6);
        Sheeted p = world.pens.get(pen);
        int hear = 0;
        int heard = 0;
        for (int[] wire : wires) {
            hear |= wire[0] == pen ? 1 << wire[1] : 0;
            heard |= wire[1] == pen ? 1 << wire[0] : 0;
        }
        int places = p.sheet == null ? -1 : Array.getLength(p.sheet);
        return new int[] {p.kind, p.mul, p.div, places, p.many, hear, heard}[what];
    }

    public int wire(int wire, int what) {
        if (wire < 0 || wire >= wires.size()) {
            throw new NoSuchElementException();
        }
        need(what == 0 || what == 1);
        return wires.get(wire)[what];
    }

    private List<Object> records(int pen) {
        List<Object> found = new ArrayList<>();
        Sheeted p = world.pens.get(pen);
        for (int i = 0; i < p.many; i++) {
            found.add(Array.get(p.sheet, i));
        }
        return found;
    }

    public int record(int pen, int i) {
        needPen(pen);
        return read(records(pen).get(i));
    }

    public int out(int pen, int v) {
        needPen(pen);
        return outNow(pen, v);
    }

    public int level(int pen, int v) {
        needPen(pen);
        return levelNow(pen, v);
    }

    public int would(int in, int out, int loss, int many, int day, int pen, int mul, int div) {
        need(loss >= 0 && many >= 0 && many <= 24 && day >= 0 && day <= 900 && pen >= 0 && pen <= 7);
        need(mul >= 0 && mul <= 99 && div >= 0 && div <= 99);
        return levelOf(in, out, loss, many, day, pen, mul, div);
    }

    public int total(int pen) {
        needPen(pen);
        int sum = 0;
        for (Object taken : records(pen)) {
            sum = Math.addExact(sum, read(taken));
        }
        return sum;
    }

    public int strange(int pen, int what) {
        needPen(pen);
        need(what == 0 || what == 1);
        int found = 0;
        for (Object taken : records(pen)) {
            double d = taken instanceof Float f ? f : taken instanceof Double e ? e : 0;
            if (what == 0 ? Double.isNaN(d) : Double.isInfinite(d)) {
                found++;
            }
        }
        return found;
    }

    private static int order(Object a, Object b) {
        if (a instanceof Long x) {
            return Long.compare(x, (Long) b);
        }
        if (a instanceof Float || a instanceof Double) {
            double x = ((Number) a).doubleValue();
            double y = ((Number) b).doubleValue();
            return x < y ? -1 : x > y ? 1 : 0;
        }
        return Integer.compare(read(a), read(b));
    }

    public int extreme(int pen, int what) {
        needPen(pen);
        need(what == 0 || what == 1);
        List<Object> all = records(pen);
        for (int i = 0; i < all.size(); i++) {
            boolean is = !isNone(all.get(i));
            for (int j = 0; j < all.size() && is; j++) {
                if (!isNone(all.get(j))) {
                    int order = order(all.get(i), all.get(j));
                    is = what == 0 ? order >= 0 : order <= 0;
                }
            }
            if (is) {
                return i;
            }
        }
        return -1;
    }

    private static boolean isNone(Object taken) {
        return taken instanceof Float f && f.isNaN() || taken instanceof Double d && d.isNaN();
    }

    private Integer throughOrNull(int v) {
        int reading = v;
        for (int pen : chain) {
            if (jams(pen)) {
                return null;
            }
            reading = outNow(pen, reading);
        }
        return reading;
    }

    public int through(int v) {
        Integer out = throughOrNull(v);
        if (out == null) {
            throw new ArithmeticException();
        }
        return out;
    }

    public int kept(int from, int many) {
        need(many >= 0 && many <= 1000);
        int kept = 0;
        for (int i = 0; i < many; i++) {
            Integer out = throughOrNull(from + i);
            kept += out != null && out == from + i ? 1 : 0;
        }
        return kept;
    }

    public int gives(int w, int from, int many) {
        need(many >= 0 && many <= 1000);
        for (int i = 0; i < many; i++) {
            Integer out = throughOrNull(from + i);
            if (out != null && out == w) {
                return i;
            }
        }
        return -1;
    }

    public int worst(int from, int many, int what) {
        need(many >= 0 && many <= 1000 && (what == 0 || what == 1));
        int[] found = {-1, -1};
        for (int i = 0; i < many; i++) {
            Integer out = throughOrNull(from + i);
            if (out != null && far(from + i, out) > found[1]) {
                found = new int[] {i, far(from + i, out)};
            }
        }
        return found[what];
    }

    /** All rows, none left out ahead of time; then the best of these. */
    private List<Integer> bestRow(int a, int b, int v) {
        List<List<Integer>> all = new ArrayList<>();
        extend(new ArrayList<>(List.of(a)), b, all);
        List<Integer> best = null;
        for (List<Integer> row : all) {
            if (lastOf(row, v) != null && (best == null || isBetter(row, best, v))) {
                best = row;
            }
        }
        return best;
    }

    private void extend(List<Integer> row, int goal, List<List<Integer>> all) {
        int last = row.get(row.size() - 1);
        if (last == goal) {
            all.add(new ArrayList<>(row));
            return;
        }
        Set<Integer> next = new HashSet<>();
        for (int[] wire : wires) {
            if (wire[0] == last && !row.contains(wire[1])) {
                next.add(wire[1]);
            }
        }
        for (int pen : next) {
            row.add(pen);
            extend(row, goal, all);
            row.remove(row.size() - 1);
        }
    }

    private Integer lastOf(List<Integer> row, int v) {
        int reading = v;
        for (int pen : row) {
            if (jams(pen)) {
                return null;
            }
            reading = outNow(pen, reading);
        }
        return reading;
    }

    private boolean isBetter(List<Integer> row, List<Integer> best, int v) {
        int one = far(v, lastOf(row, v));
        int other = far(v, lastOf(best, v));
        if (one != other) {
            return one < other;
        }
        if (row.size() != best.size()) {
            return row.size() < best.size();
        }
        for (int i = 0; i < row.size(); i++) {
            if (!row.get(i).equals(best.get(i))) {
                return row.get(i) < best.get(i);
            }
        }
        return false;
    }

    public int best(int pen, int other, int v, int what) {
        needPen(pen);
        needPen(other);
        need(what == 0 || what == 1);
        List<Integer> row = bestRow(pen, other, v);
        if (row == null) {
            return -1;
        }
        return what == 0 ? far(v, lastOf(row, v)) : row.size();
    }

    public int hop(int pen, int other, int v, int k) {
        needPen(pen);
        needPen(other);
        need(k >= 0);
        List<Integer> row = bestRow(pen, other, v);
        return row == null || k >= row.size() ? -1 : row.get(k);
    }

    public int tuning(int pen, int v, int w) {
        needPen(pen);
        int best = -1;
        for (int m = 1; m <= 99; m++) {
            for (int d = 1; d <= 99; d++) {
                if (read(taken(world.pens.get(pen).kind, v, m, d)) == w
                        && (best < 0 || m + d < best / 100 + best % 100)) {
                    best = 100 * m + d;
                }
            }
        }
        return best;
    }

    public int ring(int pen, int v, int what) {
        needPen(pen);
        need(what == 0 || what == 1);
        if (jams(pen)) {
            return -1;
        }
        List<Integer> readings = new ArrayList<>(List.of(v));
        Map<Integer, Integer> first = new HashMap<>(Map.of(v, 0));
        while (readings.size() <= 1000) {
            int next = outNow(pen, readings.get(readings.size() - 1));
            if (first.containsKey(next)) {
                return what == 0 ? readings.size() : readings.size() - first.get(next);
            }
            first.put(next, readings.size());
            readings.add(next);
        }
        return -1;
    }

    private List<Integer> fitting() {
        List<Integer> found = new ArrayList<>();
        for (int i = 0; i < world.pens.size(); i++) {
            boolean fits = true;
            for (int[] line : book) {
                fits = fits && !jams(i) && outNow(i, line[0]) == line[1];
            }
            if (fits) {
                found.add(i);
            }
        }
        return found;
    }

    public int fits() {
        int bits = 0;
        for (int pen : fitting()) {
            bits |= 1 << pen;
        }
        return bits;
    }

    public int look(int what) {
        need(what == 0 || what == 1);
        int[] found = {-1, -1};
        for (int v = 99; v >= 0 && !fitting().isEmpty(); v--) {
            Map<String, Integer> groups = new HashMap<>();
            for (int pen : fitting()) {
                groups.merge(jams(pen) ? "none" : String.valueOf(outNow(pen, v)), 1, Integer::sum);
            }
            int most = groups.values().stream().max(Integer::compare).orElse(0);
            if (found[1] < 0 || most <= found[1]) {
                found = new int[] {v, most};
            }
        }
        return found[what];
    }

    public int ready(int v) {
        int bits = 0;
        for (int i = 0; i < world.pens.size(); i++) {
            Sheeted p = world.pens.get(i);
            if (p.sheet != null && p.many < Array.getLength(p.sheet) && !jams(i)) {
                bits |= 1 << i;
            }
        }
        return bits;
    }

    public int latest(int pen) {
        needPen(pen);
        if (world.pens.get(pen).sheet == null) {
            throw new NullPointerException();
        }
        List<Object> all = records(pen);
        return read(all.get(all.size() - 1));
    }

    public boolean alike(int pen, int other) {
        needPen(pen);
        needPen(other);
        Object one = world.pens.get(pen).sheet;
        Object two = world.pens.get(other).sheet;
        if (one == null || two == null || one.getClass() != two.getClass()
                || Array.getLength(one) != Array.getLength(two)) {
            return false;
        }
        int[] a = records(pen).stream().mapToInt(PensModel::read).toArray();
        int[] b = records(other).stream().mapToInt(PensModel::read).toArray();
        return Arrays.equals(a, b);
    }

    public int chained(int k) {
        need(k >= 0 && k <= 7);
        return (int) chain.stream().filter(pen -> world.pens.get(pen).kind == k).count();
    }

    public int liar(int v, int what) {
        need(what == 0 || what == 1);
        int[] found = {-1, -1};
        for (int i = world.pens.size() - 1; i >= 0; i--) {
            if (!jams(i) && far(v, outNow(i, v)) >= found[1]) {
                found = new int[] {i, far(v, outNow(i, v))};
            }
        }
        return found[what];
    }

    public int reach(int pen) {
        needPen(pen);
        Set<Integer> come = new HashSet<>(Set.of(pen));
        boolean more = true;
        while (more) {
            more = false;
            for (int[] wire : wires) {
                more |= come.contains(wire[0]) && come.add(wire[1]);
            }
        }
        return come.stream().mapToInt(p -> 1 << p).sum();
    }

    public int room() {
        int free = 0;
        for (Sheeted pen : world.pens) {
            free += pen.sheet == null ? 0 : Array.getLength(pen.sheet) - pen.many;
        }
        return free;
    }

    private int seed;

    private int drawn(int n) {
        seed = seed * 1_103_515_245 + 12_345;
        return (seed >> 16 & 0x7fff) % n;
    }

    private World played(int itsSeed, int days, int q) {
        World before = world;
        world = before.copy();
        world.alarms = 0;
        world.readings = 0;
        seed = itsSeed;
        for (int i = 0; i < days; i++) {
            if (!world.pens.isEmpty()) {
                int pen = drawn(world.pens.size());
                int v = drawn(10000);
                write(pen, v);
            }
            if (!wires.isEmpty() && drawn(16) < q) {
                hear(drawn(wires.size()));
            }
            endDay();
        }
        World after = world;
        world = before;
        return after;
    }

    public int season(int itsSeed, int days, int q, int what) {
        need(days >= 1 && days <= 96 && q >= 0 && q <= 16 && what >= 0 && what <= 2);
        World after = played(itsSeed, days, q);
        int records = after.pens.stream().mapToInt(pen -> pen.many).sum();
        return new int[] {after.readings, after.alarms, records}[what];
    }

    public int span(int itsSeed, int many, int days, int q, int what, int pen) {
        need(many >= 1 && many <= 20 && days >= 1 && days <= 96 && q >= 0 && q <= 16 && what >= 0 && what <= 2);
        need(pen >= 0 && pen < world.pens.size());
        List<Integer> alarms = new ArrayList<>();
        int written = 0;
        for (int i = 0; i < many; i++) {
            World after = played(itsSeed + i, days, q);
            alarms.add(after.alarms);
            written += after.pens.get(pen).many > 0 ? 1 : 0;
        }
        alarms.sort(Integer::compare);
        return new int[] {alarms.get(0), alarms.get(many - 1), written}[what];
    }

    public int image() {
        if (pictures.size() == 3) {
            return -1;
        }
        List<World> copies = new ArrayList<>();
        for (World one : past) {
            copies.add(one.copy());
        }
        pictures.push(new Picture(world.copy(), copies));
        return pictures.size();
    }

    public int restore() {
        if (pictures.isEmpty()) {
            return -1;
        }
        Picture picture = pictures.pop();
        world = picture.world();
        past = picture.past();
        refusedSteps = 0;
        return pictures.size();
    }

    public int status(int what) {
        return what >= 0 && what < 5 ? status[what] : -1;
    }

    public int count(int what) {
        return what == 0 ? pictures.size() : what == 1 ? tape.size() : what == 2 ? past.size() : -1;
    }

    /** Counts a refused call, as whoever called sees it. */
    public void refused(RuntimeException thrown) {
        if (thrown instanceof NoSuchElementException) {
            status[0]++;
        } else if (thrown instanceof IllegalArgumentException) {
            status[1]++;
        } else if (thrown instanceof NullPointerException) {
            status[2]++;
        } else if (thrown instanceof IndexOutOfBoundsException) {
            status[3]++;
        } else if (thrown instanceof ArithmeticException) {
            status[4]++;
        }
    }
}
