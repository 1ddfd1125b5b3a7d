import java.util.NoSuchElementException;

/**
 * A weather hut of pens that write what they take of a reading, each on a sheet of its own kind.
 * The words in the comments are those of the document.
 */
public final class UnlikePens {
    public static final int NONE = -1;

    private static final int GREATEST = 2147483647;

    private static final int MOST_TAPE = 600;
    private static final int MOST_LAW = 150;
    private static final int MOST_WORK = 150;
    private static final int MOST_CHAIN = 60;
    private static final int MOST_BOOK = 60;

    private static final int MOST_PENS = 8;
    private static final int MOST_WIRES = 16;
    private static final int MOST_CLAUSES = 60;
    private static final int MOST_PLACES = 24;
    private static final int MOST_TUNED = 99;
    private static final int MOST_OPEN = 6;
    private static final int MOST_CHAINED = 12;
    private static final int MOST_LINES = 6;
    private static final int MOST_BEGUN = 200;
    private static final int MOST_WORKS = 16;
    private static final int MOST_IMAGES = 3;
    private static final int MOST_DAY = 900;
    private static final int MOST_ASKED = 1000;
    private static final int MOST_RING = 1000;
    private static final int MOST_LOOKED = 100;
    private static final int MOST_SEEDS = 20;
    private static final int MOST_SEASON = 96;
    private static final int DRAWN_HEAR = 16;
    private static final int DRAWN_READING = 10000;

    private static final int ALARMING = 50;
    private static final int MOST_LEVEL = 99;

    private static final int CANT_STAND = 1;
    private static final int NO_SUCH_NUMBER = 2;
    private static final int TOO_MANY = 3;
    private static final int FAULT_LESS = 10;
    private static final int NO_WORK_LEFT = -20;

    private static final int BYTES = 0;
    private static final int SHORTS = 1;
    private static final int CHARS = 2;
    private static final int INTS = 3;
    private static final int LONGS = 4;
    private static final int FLOATS = 5;
    private static final int DOUBLES = 6;
    private static final int YES_OR_NO = 7;

    private static final int REFUSED_ELEMENT = 0;
    private static final int REFUSED_ARGUMENT = 1;
    private static final int REFUSED_NULL = 2;
    private static final int REFUSED_INDEX = 3;
    private static final int REFUSED_ARITHMETIC = 4;
    private static final int REFUSALS = 5;

    private final Tape tape = new Tape();
    private final Work work = new Work();
    private final History history = new History();
    private final State now = new State();
    private final Season weather = new Season();
    private final Rows rows = new Rows();
    /** A PEN for TUNING, of which nothing stays. */
    private final Pen tried = new Pen();
    private final int[] ringReadings = new int[MOST_RING + 1];
    private final int[] refusals = new int[REFUSALS];

    // Each text is read into the spare one, so that a FAULT leaves the one in use as it is.
    private Hut hut = new Hut();
    private Hut spareHut = new Hut();
    private Law law = new Law();
    private Law spareLaw = new Law();
    private Chain chain = new Chain();
    private Chain spareChain = new Chain();
    private Book book = new Book();
    private Book spareBook = new Book();
    private int refusedSteps;

    public UnlikePens() {
    }

    public int feed(int a, int b, int c, int d, int e) {
        if (tape.many > MOST_TAPE - 20) {
            return NONE;
        }
        tape.put(a);
        tape.put(b);
        tape.put(c);
        tape.put(d);
        tape.put(e);
        return tape.many;
    }

    public int hut(int n) throws IllegalArgumentException {
        needText(n, MOST_TAPE);
        tape.open(n);
        spareHut.parse(tape);
        if (tape.failed()) {
            return tape.fault - FAULT_LESS;
        }
        Hut old = hut;
        hut = spareHut;
        spareHut = old;
        now.begin(hut);
        law.clear();
        chain.clear();
        book.clear();
        history.clear();
        refusedSteps = 0;
        return hut.pens;
    }

    public int law(int n) throws IllegalArgumentException {
        needText(n, MOST_LAW);
        tape.open(n);
        spareLaw.parse(tape);
        if (tape.failed()) {
            return tape.fault - FAULT_LESS;
        }
        Law old = law;
        law = spareLaw;
        spareLaw = old;
        return 1;
    }

    public int work(int n) throws IllegalArgumentException {
        needText(n, MOST_WORK);
        if (history.works >= MOST_WORKS) {
            tape.open(0);
            return NO_WORK_LEFT;
        }
        tape.open(n);
        work.parse(tape, hut);
        if (tape.failed()) {
            return tape.fault - FAULT_LESS;
        }
        history.keep(now);
        work.begin();
        Work.run(work, now, hut, law, 0, work.steps, 0);
        refusedSteps = work.refused;
        return work.done;
    }

    public int chain(int n) throws IllegalArgumentException {
        needText(n, MOST_CHAIN);
        tape.open(n);
        spareChain.parse(tape, hut.pens);
        if (tape.failed()) {
            return tape.fault - FAULT_LESS;
        }
        Chain old = chain;
        chain = spareChain;
        spareChain = old;
        return chain.length;
    }

    public int book(int n) throws IllegalArgumentException {
        needText(n, MOST_BOOK);
        tape.open(n);
        spareBook.parse(tape);
        if (tape.failed()) {
            return tape.fault - FAULT_LESS;
        }
        Book old = book;
        book = spareBook;
        spareBook = old;
        return book.lines;
    }

    public int fault() {
        return tape.place;
    }

    public int undo() {
        if (history.works == 0) {
            return -1;
        }
        history.takeBack(now);
        refusedSteps = 0;
        return history.works;
    }

    public int told(int what) throws IllegalArgumentException {
        needWithin(what, 0, 10);
        switch (what) {
            case 0:
                return hut.pens;
            case 1:
                return hut.wires;
            case 2:
                return now.day;
            case 3:
                return sheetBits();
            case 4:
                return now.records();
            case 5:
                return now.alarms;
            case 6:
                return now.readings;
            case 7:
                return chain.length;
            case 8:
                return book.lines;
            case 9:
                return refusedSteps;
            default:
                return jamBits();
        }
    }

    public int pen(int pen, int what) throws NoSuchElementException, IllegalArgumentException {
        needPen(pen);
        needWithin(what, 0, 6);
        Pen asked = now.pens[pen];
        switch (what) {
            case 0:
                return asked.kind;
            case 1:
                return asked.mul;
            case 2:
                return asked.div;
            case 3:
                return asked.places;
            case 4:
                return asked.many;
            case 5:
                return hut.hearersOf(pen);
            default:
                return hut.heardBy(pen);
        }
    }

    public int wire(int wire, int what) throws NoSuchElementException, IllegalArgumentException {
        if (wire < 0 || wire >= hut.wires) {
            refuseElement();
        }
        needWithin(what, 0, 1);
        return what == 0 ? hut.from[wire] : hut.to[wire];
    }

    public int record(int pen, int i) throws NoSuchElementException, IndexOutOfBoundsException {
        needPen(pen);
        needRecord(pen, i);
        return now.pens[pen].readAt(i);
    }

    public int out(int pen, int v) throws NoSuchElementException, ArithmeticException {
        needPen(pen);
        if (now.pens[pen].jams()) {
            refuseArithmetic();
        }
        return now.pens[pen].outOf(v);
    }

    public int level(int pen, int v) throws NoSuchElementException {
        needPen(pen);
        return law.levelBy(now, pen, v);
    }

    public int would(int in, int out, int loss, int many, int day, int pen, int mul, int div)
            throws IllegalArgumentException {
        needWithin(loss, 0, GREATEST);
        needWithin(many, 0, MOST_PLACES);
        needWithin(day, 0, MOST_DAY);
        needWithin(pen, 0, MOST_PENS - 1);
        needWithin(mul, 0, MOST_TUNED);
        needWithin(div, 0, MOST_TUNED);
        law.given[Law.IN] = in;
        law.given[Law.OUT] = out;
        law.given[Law.LOSS] = loss;
        law.given[Law.MANY] = many;
        law.given[Law.DAY] = day;
        law.given[Law.PEN] = pen;
        law.given[Law.MUL] = mul;
        law.given[Law.DIV] = div;
        return law.levelOfGiven();
    }

    public int total(int pen) throws NoSuchElementException, ArithmeticException {
        needPen(pen);
        Pen asked = now.pens[pen];
        long sum = 0;
        for (int i = 0; i < asked.many; i++) {
            sum += asked.readAt(i);
            if (sum != (int) sum) {
                refuseArithmetic();
            }
        }
        return (int) sum;
    }

    public int strange(int pen, int what) throws NoSuchElementException, IllegalArgumentException {
        needPen(pen);
        needWithin(what, 0, 1);
        return now.pens[pen].strangeRecords(what == 1);
    }

    public int extreme(int pen, int what) throws NoSuchElementException, IllegalArgumentException {
        needPen(pen);
        needWithin(what, 0, 1);
        return now.pens[pen].extremePlace(what == 1);
    }

    public int through(int v) throws ArithmeticException {
        if (chainJams()) {
            refuseArithmetic();
        }
        return chainOut(v);
    }

    public int kept(int from, int many) throws IllegalArgumentException {
        needWithin(many, 0, MOST_ASKED);
        if (chainJams()) {
            return 0;
        }
        int same = 0;
        for (int i = 0; i < many; i++) {
            if (chainOut(from + i) == from + i) {
                same++;
            }
        }
        return same;
    }

    public int gives(int w, int from, int many) throws IllegalArgumentException {
        needWithin(many, 0, MOST_ASKED);
        if (chainJams()) {
            return NONE;
        }
        for (int i = 0; i < many; i++) {
            if (chainOut(from + i) == w) {
                return i;
            }
        }
        return NONE;
    }

    public int worst(int from, int many, int what) throws IllegalArgumentException {
        needWithin(many, 0, MOST_ASKED);
        needWithin(what, 0, 1);
        if (chainJams()) {
            return NONE;
        }
        int which = NONE;
        int far = NONE;
        for (int i = 0; i < many; i++) {
            int lost = distance(from + i, chainOut(from + i));
            if (lost > far) {
                far = lost;
                which = i;
            }
        }
        return what == 0 ? which : far;
    }

    public int best(int pen, int other, int v, int what) throws NoSuchElementException, IllegalArgumentException {
        needPen(pen);
        needPen(other);
        needWithin(what, 0, 1);
        rows.search(now, hut, pen, other, v);
        if (rows.length == 0) {
            return NONE;
        }
        return what == 0 ? rows.far : rows.length;
    }

    public int hop(int pen, int other, int v, int k) throws NoSuchElementException, IllegalArgumentException {
        needPen(pen);
        needPen(other);
        if (k < 0) {
            refuseArgument();
        }
        rows.search(now, hut, pen, other, v);
        return k < rows.length ? rows.found[k] : NONE;
    }

    public int tuning(int pen, int v, int w) throws NoSuchElementException {
        needPen(pen);
        tried.kind = now.pens[pen].kind;
        for (int sum = 2; sum <= 2 * MOST_TUNED; sum++) {
            int last = Math.min(sum - 1, MOST_TUNED);
            for (int mul = Math.max(1, sum - MOST_TUNED); mul <= last; mul++) {
                tried.mul = mul;
                tried.div = sum - mul;
                if (tried.outOf(v) == w) {
                    return 100 * mul + sum - mul;
                }
            }
        }
        return NONE;
    }

    public int ring(int pen, int v, int what) throws NoSuchElementException, IllegalArgumentException {
        needPen(pen);
        needWithin(what, 0, 1);
        if (now.pens[pen].jams()) {
            return NONE;
        }
        fillRing(now.pens[pen], v);
        int between = ringLength();
        if (between == NONE || what == 1) {
            return between;
        }
        return ringStart(between) + between;
    }

    public int fits() {
        int bits = 0;
        for (int i = 0; i < hut.pens; i++) {
            if (fitsBook(now.pens[i])) {
                bits |= 1 << i;
            }
        }
        return bits;
    }

    public int look(int what) throws IllegalArgumentException {
        needWithin(what, 0, 1);
        int fitting = fits();
        if (fitting == 0) {
            return NONE;
        }
        int reading = NONE;
        int left = MOST_PENS + 1;
        for (int v = 0; v < MOST_LOOKED; v++) {
            int most = mostAlike(fitting, v);
            if (most < left) {
                left = most;
                reading = v;
            }
        }
        return what == 0 ? reading : left;
    }

    public int ready(int v) {
        int bits = 0;
        for (int i = 0; i < hut.pens; i++) {
            if (now.pens[i].canWrite()) {
                bits |= 1 << i;
            }
        }
        return bits;
    }

    public int latest(int pen) throws NoSuchElementException, NullPointerException, IndexOutOfBoundsException {
        needPen(pen);
        Pen asked = now.pens[pen];
        if (asked.places == NONE) {
            refusals[REFUSED_NULL]++;
            throw new NullPointerException("the pen has no sheet");
        }
        needRecord(pen, asked.many - 1);
        return asked.readAt(asked.many - 1);
    }

    public boolean alike(int pen, int other) throws NoSuchElementException {
        needPen(pen);
        needPen(other);
        return now.pens[pen].isLike(now.pens[other]);
    }

    public int chained(int k) throws IllegalArgumentException {
        needWithin(k, BYTES, YES_OR_NO);
        int many = 0;
        for (int i = 0; i < chain.length; i++) {
            if (now.pens[chain.pens[i]].kind == k) {
                many++;
            }
        }
        return many;
    }

    public int liar(int v, int what) throws IllegalArgumentException {
        needWithin(what, 0, 1);
        int which = NONE;
        int far = NONE;
        for (int i = 0; i < hut.pens; i++) {
            Pen asked = now.pens[i];
            int lost = asked.jams() ? NONE : distance(v, asked.outOf(v));
            if (lost > far) {
                far = lost;
                which = i;
            }
        }
        return what == 0 ? which : far;
    }

    public int reach(int pen) throws NoSuchElementException {
        needPen(pen);
        int bits = 1 << pen;
        for (int round = 0; round < MOST_PENS; round++) {
            for (int i = 0; i < hut.wires; i++) {
                if ((bits >> hut.from[i] & 1) != 0) {
                    bits |= 1 << hut.to[i];
                }
            }
        }
        return bits;
    }

    public int room() {
        int free = 0;
        for (int i = 0; i < hut.pens; i++) {
            free += now.pens[i].freePlaces();
        }
        return free;
    }

    public int season(int seed, int days, int q, int what) throws IllegalArgumentException {
        needWithin(days, 1, MOST_SEASON);
        needWithin(q, 0, DRAWN_HEAR);
        needWithin(what, 0, 2);
        weather.play(now, hut, law, seed, days, q);
        if (what == 0) {
            return weather.state.readings;
        }
        return what == 1 ? weather.state.alarms : weather.state.records();
    }

    public int span(int seed, int many, int days, int q, int what, int pen) throws IllegalArgumentException {
        needWithin(many, 1, MOST_SEEDS);
        needWithin(days, 1, MOST_SEASON);
        needWithin(q, 0, DRAWN_HEAR);
        needWithin(what, 0, 2);
        needWithin(pen, 0, hut.pens - 1);
        int fewest = GREATEST;
        int most = 0;
        int written = 0;
        for (int i = 0; i < many; i++) {
            weather.play(now, hut, law, seed + i, days, q);
            fewest = Math.min(fewest, weather.state.alarms);
            most = Math.max(most, weather.state.alarms);
            written += weather.state.pens[pen].many > 0 ? 1 : 0;
        }
        if (what == 0) {
            return fewest;
        }
        return what == 1 ? most : written;
    }

    public int image() {
        if (history.images >= MOST_IMAGES) {
            return -1;
        }
        history.takeImage(now);
        return history.images;
    }

    public int restore() {
        if (history.images == 0) {
            return -1;
        }
        history.giveBack(now);
        refusedSteps = 0;
        return history.images;
    }

    public int status(int what) {
        return what >= 0 && what < REFUSALS ? refusals[what] : NONE;
    }

    public int count(int what) {
        switch (what) {
            case 0:
                return history.images;
            case 1:
                return tape.many;
            case 2:
                return history.works;
            default:
                return NONE;
        }
    }

    private void refuseElement() {
        refusals[REFUSED_ELEMENT]++;
        throw new NoSuchElementException("no such pen or wire");
    }

    private void refuseArgument() {
        refusals[REFUSED_ARGUMENT]++;
        throw new IllegalArgumentException("no such argument");
    }

    private void refuseArithmetic() {
        refusals[REFUSED_ARITHMETIC]++;
        throw new ArithmeticException("no such number");
    }

    private void needPen(int pen) {
        if (pen < 0 || pen >= hut.pens) {
            refuseElement();
        }
    }

    private void needRecord(int pen, int i) {
        if (i < 0 || i >= now.pens[pen].many) {
            refusals[REFUSED_INDEX]++;
            throw new IndexOutOfBoundsException("no such record");
        }
    }

    private void needWithin(int number, int least, int most) {
        if (number < least || number > most) {
            refuseArgument();
        }
    }

    private void needText(int n, int most) {
        needWithin(n, 0, Math.min(most, tape.many));
    }

    private static int distance(int one, int other) {
        return (int) Math.min(GREATEST, Math.abs((long) one - other));
    }

    private int sheetBits() {
        int bits = 0;
        for (int i = 0; i < hut.pens; i++) {
            if (now.pens[i].places != NONE) {
                bits |= 1 << i;
            }
        }
        return bits;
    }

    private int jamBits() {
        int bits = 0;
        for (int i = 0; i < hut.pens; i++) {
            if (now.pens[i].jams()) {
                bits |= 1 << i;
            }
        }
        return bits;
    }

    /** Whether a PEN JAMS hangs on its D alone, so that all readings JAM in the CHAIN, or none. */
    private boolean chainJams() {
        for (int i = 0; i < chain.length; i++) {
            if (now.pens[chain.pens[i]].jams()) {
                return true;
            }
        }
        return false;
    }

    private int chainOut(int v) {
        int reading = v;
        for (int i = 0; i < chain.length; i++) {
            reading = now.pens[chain.pens[i]].outOf(reading);
        }
        return reading;
    }

    private void fillRing(Pen pen, int v) {
        ringReadings[0] = v;
        for (int i = 1; i <= MOST_RING; i++) {
            ringReadings[i] = pen.outOf(ringReadings[i - 1]);
        }
    }

    /**
     * The last reading lies on the ring if there is one within the row, and then one round lies
     * between it and the nearest one like it; so no reading need be held against all others.
     */
    private int ringLength() {
        for (int i = MOST_RING - 1; i >= 0; i--) {
            if (ringReadings[i] == ringReadings[MOST_RING]) {
                return MOST_RING - i;
            }
        }
        return NONE;
    }

    private int ringStart(int between) {
        for (int i = 0; i + between < MOST_RING; i++) {
            if (ringReadings[i] == ringReadings[i + between]) {
                return i;
            }
        }
        return MOST_RING - between;
    }

    private boolean fitsBook(Pen pen) {
        if (book.lines > 0 && pen.jams()) {
            return false;
        }
        for (int i = 0; i < book.lines; i++) {
            if (pen.outOf(book.readings[i]) != book.outs[i]) {
                return false;
            }
        }
        return true;
    }

    /** How many of the PENS (bits) are alike by what comes out of a reading, in the greatest such group. */
    private int mostAlike(int bits, int v) {
        int most = 0;
        for (int i = 0; i < hut.pens; i++) {
            int group = 0;
            for (int j = 0; j < hut.pens; j++) {
                boolean both = (bits >> i & bits >> j & 1) != 0;
                if (both && comesOutAlike(now.pens[i], now.pens[j], v)) {
                    group++;
                }
            }
            most = Math.max(most, group);
        }
        return most;
    }

    private static boolean comesOutAlike(Pen one, Pen other, int v) {
        if (one.jams() || other.jams()) {
            return one.jams() && other.jams();
        }
        return one.outOf(v) == other.outOf(v);
    }

    /** The TAPE, and the text at its front, read from the left up to its first FAULT; behind one nothing is read. */
    private static final class Tape {
        private static final int TOO_GREAT = 100000000;

        final byte[] bytes = new byte[MOST_TAPE];
        int many;
        int fault;
        int place = NONE;
        /** The first byte of the latest word, number or sign looked at. */
        int start;
        private int at;
        private int end;

        void put(int number) {
            for (int shift = 24; shift >= 0 && many < MOST_TAPE; shift -= 8) {
                bytes[many] = (byte) (number >> shift);
                many++;
            }
        }

        void open(int n) {
            end = n;
            at = 0;
            start = 0;
            many = 0;
            fault = 0;
            place = NONE;
        }

        boolean failed() {
            return fault != 0;
        }

        void fail(int kind, int where) {
            if (fault == 0) {
                fault = kind;
                place = where;
            }
        }

        /** The next byte that is no blank; NONE at the end. */
        private int next() {
            while (at < end && at < MOST_TAPE && bytes[at] == ' ') {
                at++;
            }
            start = at;
            return at < end && at < MOST_TAPE ? bytes[at] & 255 : NONE;
        }

        private int byteHere() {
            return at < end && at < MOST_TAPE ? bytes[at] & 255 : NONE;
        }

        /** Whether there is no FAULT yet, and more to read. */
        boolean more() {
            return fault == 0 && next() != NONE;
        }

        boolean comes(char sign) {
            return fault == 0 && next() == sign;
        }

        boolean digitComes() {
            return fault == 0 && isDigit(next());
        }

        void need(char sign) {
            if (fault == 0 && next() == sign) {
                at++;
            } else {
                fail(CANT_STAND, start);
            }
        }

        /** Which of the signs comes, which is read then; NONE (nothing is read): another one. */
        int oneOf(String signs) {
            for (int i = 0; i < signs.length(); i++) {
                if (comes(signs.charAt(i))) {
                    at++;
                    return i;
                }
            }
            return NONE;
        }

        void needEnd() {
            if (more()) {
                fail(CANT_STAND, start);
            }
        }

        /** A number from 0 on; NONE: a FAULT. */
        int number(int most) {
            if (!digitComes()) {
                fail(CANT_STAND, start);
                return NONE;
            }
            int number = 0;
            while (at < end && isDigit(byteHere())) {
                number = Math.min(TOO_GREAT, number * 10 + byteHere() - '0');
                at++;
            }
            if (number > most) {
                fail(NO_SUCH_NUMBER, start);
                return NONE;
            }
            return number;
        }

        /** Which of the words, behind each of which a blank stands, comes; NONE: a FAULT. */
        int word(String words) {
            if (!more()) {
                fail(CANT_STAND, start);
                return NONE;
            }
            while (at < end && isLetter(byteHere())) {
                at++;
            }
            int which = 0;
            int first = 0;
            for (int i = 0; i < words.length(); i++) {
                if (words.charAt(i) == ' ') {
                    if (isRead(words, first, i - first)) {
                        return which;
                    }
                    which++;
                    first = i + 1;
                }
            }
            fail(CANT_STAND, start);
            return NONE;
        }

        private boolean isRead(String words, int first, int length) {
            if (length != at - start || first + length > words.length() || start + length > MOST_TAPE) {
                return false;
            }
            for (int i = 0; i < length; i++) {
                if (bytes[start + i] != words.charAt(first + i)) {
                    return false;
                }
            }
            return true;
        }

        private static boolean isDigit(int sign) {
            return sign >= '0' && sign <= '9';
        }

        private static boolean isLetter(int sign) {
            return sign >= 'a' && sign <= 'z';
        }
    }

    /** What the text of a HUT tells. */
    private static final class Hut {
        private static final String WORDS = "pen wire sheet ";
        private static final int PEN = 0;
        private static final int WIRE = 1;

        int pens;
        final int[] kinds = new int[MOST_PENS];
        final int[] muls = new int[MOST_PENS];
        final int[] divs = new int[MOST_PENS];
        int wires;
        final int[] from = new int[MOST_WIRES];
        final int[] to = new int[MOST_WIRES];
        int sheet;

        void parse(Tape tape) {
            pens = 0;
            wires = 0;
            sheet = 8;
            for (int clauses = 0; clauses <= MOST_CLAUSES && tape.more(); clauses++) {
                parseClause(tape, clauses);
            }
        }

        private void parseClause(Tape tape, int ahead) {
            int word = tape.word(WORDS);
            if (word == NONE) {
                return;
            }
            if (ahead >= MOST_CLAUSES || word == PEN && pens >= MOST_PENS || word == WIRE && wires >= MOST_WIRES) {
                tape.fail(TOO_MANY, tape.start);
                return;
            }
            if (word == PEN) {
                parsePen(tape);
            } else if (word == WIRE) {
                parseWire(tape);
            } else {
                sheet = tape.number(MOST_PLACES);
            }
            tape.need(';');
        }

        private void parsePen(Tape tape) {
            kinds[pens] = tape.number(YES_OR_NO);
            muls[pens] = tape.number(MOST_TUNED);
            divs[pens] = tape.number(MOST_TUNED);
            pens++;
        }

        private void parseWire(Tape tape) {
            from[wires] = tape.number(pens - 1);
            to[wires] = tape.number(pens - 1);
            if (to[wires] == from[wires]) {
                tape.fail(NO_SUCH_NUMBER, tape.start);
            }
            wires++;
        }

        boolean isHeardBy(int pen, int other) {
            return (hearersOf(pen) >> other & 1) != 0;
        }

        int hearersOf(int pen) {
            int bits = 0;
            for (int i = 0; i < wires; i++) {
                if (from[i] == pen) {
                    bits |= 1 << to[i];
                }
            }
            return bits;
        }

        int heardBy(int pen) {
            int bits = 0;
            for (int i = 0; i < wires; i++) {
                if (to[i] == pen) {
                    bits |= 1 << from[i];
                }
            }
            return bits;
        }
    }

    /** The LAW as a row of codes, in which each sign stands behind what it puts together. */
    private static final class Law {
        private static final String WORDS = "in out loss many day pen mul div least most ";
        static final int IN = 0;
        static final int OUT = 1;
        static final int LOSS = 2;
        static final int MANY = 3;
        static final int DAY = 4;
        static final int PEN = 5;
        static final int MUL = 6;
        static final int DIV = 7;
        private static final int GIVEN = 8;
        private static final int LEAST = 8;
        private static final int MOST = 9;
        private static final int PLUS = 10;
        private static final int MINUS = 11;
        private static final int TIMES = 12;
        private static final int OVER = 13;
        private static final int REST = 14;
        private static final int NUMBER = 15;
        private static final int MOST_NUMBER = 999;

        final int[] given = new int[GIVEN];
        private final int[] codes = new int[MOST_LAW];
        private final int[] numbers = new int[MOST_LAW];
        private int length;
        private final int[] stack = new int[MOST_LAW];

        Law() {
            codes[0] = LOSS;
            length = 1;
        }

        void clear() {
            length = 0;
            put(LOSS, 0);
        }

        void parse(Tape tape) {
            length = 0;
            parseSum(tape, 0);
            tape.needEnd();
        }

        private void put(int code, int number) {
            if (length < MOST_LAW) {
                codes[length] = code;
                numbers[length] = number;
                length++;
            }
        }

        private void parseSum(Tape tape, int open) {
            parseProduct(tape, open);
            for (int i = 0; i < MOST_LAW; i++) {
                int sign = tape.oneOf("+-");
                if (sign == NONE) {
                    return;
                }
                parseProduct(tape, open);
                put(PLUS + sign, 0);
            }
        }

        private void parseProduct(Tape tape, int open) {
            parseUnit(tape, open);
            for (int i = 0; i < MOST_LAW; i++) {
                int sign = tape.oneOf("*/%");
                if (sign == NONE) {
                    return;
                }
                parseUnit(tape, open);
                put(TIMES + sign, 0);
            }
        }

        private void parseUnit(Tape tape, int open) {
            if (tape.digitComes()) {
                put(NUMBER, tape.number(MOST_NUMBER));
            } else if (tape.comes('(')) {
                parseBracket(tape, open);
            } else {
                int word = tape.word(WORDS);
                if (word == LEAST || word == MOST) {
                    parsePair(tape, word, open);
                } else {
                    put(word, 0);
                }
            }
        }

        private void parseBracket(Tape tape, int open) {
            if (open >= MOST_OPEN) {
                tape.fail(TOO_MANY, tape.start);
                return;
            }
            tape.need('(');
            parseSum(tape, open + 1);
            tape.need(')');
        }

        private void parsePair(Tape tape, int word, int open) {
            if (open >= MOST_OPEN) {
                tape.fail(TOO_MANY, tape.start);
                return;
            }
            tape.need('[');
            parseSum(tape, open + 1);
            tape.need(',');
            parseSum(tape, open + 1);
            tape.need(']');
            put(word, 0);
        }

        int levelBy(State state, int pen, int v) {
            Pen asked = state.pens[pen];
            int read = asked.jams() ? 0 : asked.outOf(v);
            given[IN] = v;
            given[OUT] = read;
            given[LOSS] = asked.jams() ? 0 : distance(v, read);
            given[MANY] = asked.many;
            given[DAY] = state.day;
            given[PEN] = pen;
            given[MUL] = asked.mul;
            given[DIV] = asked.div;
            return levelOfGiven();
        }

        int levelOfGiven() {
            int top = 0;
            for (int i = 0; i < length; i++) {
                int code = codes[i];
                if (code == NUMBER || code >= 0 && code < GIVEN) {
                    if (top < MOST_LAW) {
                        stack[top] = code == NUMBER ? numbers[i] : given[code];
                        top++;
                    }
                } else if (top >= 2) {
                    top--;
                    stack[top - 1] = together(code, stack[top - 1], stack[top]);
                }
            }
            return Math.max(0, Math.min(MOST_LEVEL, stack[0]));
        }

        private static int together(int code, int one, int other) {
            switch (code) {
                case LEAST:
                    return Math.min(one, other);
                case MOST:
                    return Math.max(one, other);
                case PLUS:
                    return one + other;
                case MINUS:
                    return one - other;
                case TIMES:
                    return one * other;
                case OVER:
                    return other == 0 ? 0 : one / other;
                case REST:
                    return other == 0 ? 0 : one % other;
                default:
                    return 0;
            }
        }
    }

    /** A PEN as WORK changes it: M and D, its SHEET, its records. */
    private static final class Pen {
        // What a record of KIND 5 or 6 is, in the order of its greatness.
        private static final int ENDLESS_BELOW = -1;
        private static final int A_NUMBER = 0;
        private static final int ENDLESS = 1;
        private static final int NO_NUMBER = 2;

        int kind;
        int mul;
        int div;
        /** Of its SHEET; NONE: it has none. */
        int places = NONE;
        int many;
        // Each record is a whole number (KINDS 0 to 4, and 7), or a real one; what it is not, is 0.
        private final long[] wholes = new long[MOST_PLACES];
        private final double[] reals = new double[MOST_PLACES];
        private final byte[] marks = new byte[MOST_PLACES];

        void begin(int itsKind, int itsMul, int itsDiv, int itsPlaces) {
            kind = itsKind;
            mul = itsMul;
            div = itsDiv;
            newSheet(itsPlaces);
        }

        void copyFrom(Pen other) {
            kind = other.kind;
            mul = other.mul;
            div = other.div;
            places = other.places;
            many = other.many;
            copyPlaces(other, MOST_PLACES);
        }

        private void copyPlaces(Pen other, int n) {
            System.arraycopy(other.wholes, 0, wholes, 0, n);
            System.arraycopy(other.reals, 0, reals, 0, n);
            System.arraycopy(other.marks, 0, marks, 0, n);
        }

        private void newSheet(int itsPlaces) {
            places = itsPlaces;
            many = 0;
            for (int i = 0; i < MOST_PLACES; i++) {
                clearPlace(i);
            }
        }

        private void clearPlace(int i) {
            wholes[i] = 0;
            reals[i] = 0;
            marks[i] = A_NUMBER;
        }

        boolean jams() {
            return div == 0 && kind <= LONGS;
        }

        int freePlaces() {
            return places == NONE ? 0 : places - many;
        }

        boolean canWrite() {
            return !jams() && freePlaces() > 0;
        }

        void write(int v) {
            if (isReal()) {
                reals[many] = realTaken(v);
                marks[many] = (byte) markTaken(v);
            } else {
                wholes[many] = wholeTaken(v);
            }
            many++;
        }

        boolean wipe() {
            if (many == 0) {
                return false;
            }
            newSheet(places);
            return true;
        }

        boolean tear() {
            if (places == NONE) {
                return false;
            }
            newSheet(NONE);
            return true;
        }

        boolean lay(int itsPlaces) {
            if (itsPlaces < 0 || itsPlaces > MOST_PLACES) {
                return false;
            }
            newSheet(itsPlaces);
            return true;
        }

        boolean takeCopy(Pen other, int n) {
            if (kind != other.kind || places == NONE || other.places == NONE || n > places || n > other.places) {
                return false;
            }
            copyPlaces(other, n);
            many = Math.max(many, Math.min(other.many, n));
            return true;
        }

        boolean tune(int newMul, int newDiv) {
            if (mul == newMul && div == newDiv) {
                return false;
            }
            mul = newMul;
            div = newDiv;
            return true;
        }

        void moveUp() {
            if (many == 0) {
                return;
            }
            many--;
            System.arraycopy(wholes, 1, wholes, 0, many);
            System.arraycopy(reals, 1, reals, 0, many);
            System.arraycopy(marks, 1, marks, 0, many);
            clearPlace(many);
        }

        int readAt(int i) {
            return isReal() ? readOf(marks[i], reals[i]) : (int) wholes[i];
        }

        int strangeRecords(boolean endless) {
            int found = 0;
            for (int i = 0; i < many; i++) {
                boolean none = marks[i] == NO_NUMBER;
                if (marks[i] != A_NUMBER && none != endless) {
                    found++;
                }
            }
            return found;
        }

        int extremePlace(boolean least) {
            int found = NONE;
            for (int i = 0; i < many; i++) {
                if (marks[i] == NO_NUMBER) {
                    continue;
                }
                if (found == NONE || (least ? isLess(i, found) : isLess(found, i))) {
                    found = i;
                }
            }
            return found;
        }

        private boolean isLess(int i, int j) {
            if (marks[i] != marks[j]) {
                return marks[i] < marks[j];
            }
            return wholes[i] < wholes[j] || reals[i] < reals[j];
        }

        boolean isLike(Pen other) {
            if (places == NONE || kind != other.kind || places != other.places || many != other.many) {
                return false;
            }
            for (int i = 0; i < many; i++) {
                if (readAt(i) != other.readAt(i)) {
                    return false;
                }
            }
            return true;
        }

        /** OUT of a reading; the PEN must not JAM. */
        int outOf(int v) {
            return isReal() ? readOf(markTaken(v), realTaken(v)) : (int) wholeTaken(v);
        }

        private boolean isReal() {
            return kind == FLOATS || kind == DOUBLES;
        }

        private static int readOf(int mark, double real) {
            switch (mark) {
                case A_NUMBER:
                    return (int) real;
                case ENDLESS:
                    return GREATEST;
                case ENDLESS_BELOW:
                    return -GREATEST - 1;
                default:
                    return 0;
            }
        }

        private long wholeTaken(int v) {
            if (kind == YES_OR_NO) {
                return v * mul + div & 1;
            }
            if (div == 0) {
                return 0;
            }
            switch (kind) {
                case BYTES:
                    return (byte) (v * mul / div);
                case SHORTS:
                    return (short) (v * mul / div);
                case CHARS:
                    return (char) (v * mul / div);
                case INTS:
                    return v * mul / div;
                default:
                    return (long) v * mul / div;
            }
        }

        /** What is divided by 0 is told by its mark alone: no NaN is ever made. */
        private double realTaken(int v) {
            if (div == 0) {
                return 0;
            }
            if (kind == FLOATS) {
                return (float) v * (float) mul / (float) div;
            }
            return (double) v * (double) mul / (double) div;
        }

        private int markTaken(int v) {
            if (div != 0) {
                return A_NUMBER;
            }
            if (v == 0 || mul == 0) {
                return NO_NUMBER;
            }
            return v > 0 ? ENDLESS : ENDLESS_BELOW;
        }
    }

    /** All that WORK changes. */
    private static final class State {
        final Pen[] pens = new Pen[MOST_PENS];
        int count;
        int day;
        int alarms;
        int readings;

        State() {
            for (int i = 0; i < MOST_PENS; i++) {
                pens[i] = new Pen();
            }
        }

        void begin(Hut hut) {
            count = hut.pens;
            day = 0;
            alarms = 0;
            readings = 0;
            for (int i = 0; i < count; i++) {
                pens[i].begin(hut.kinds[i], hut.muls[i], hut.divs[i], hut.sheet);
            }
        }

        void copyFrom(State other) {
            count = other.count;
            day = other.day;
            alarms = other.alarms;
            readings = other.readings;
            for (int i = 0; i < count; i++) {
                pens[i].copyFrom(other.pens[i]);
            }
        }

        int records() {
            int sum = 0;
            for (int i = 0; i < count; i++) {
                sum += pens[i].many;
            }
            return sum;
        }

        boolean write(int pen, int v, Law law) {
            if (!pens[pen].canWrite()) {
                return false;
            }
            if (law.levelBy(this, pen, v) >= ALARMING) {
                alarms++;
            }
            pens[pen].write(v);
            readings++;
            return true;
        }

        boolean hear(int from, int to, Law law) {
            Pen heard = pens[from];
            return heard.many > 0 && write(to, heard.readAt(heard.many - 1), law);
        }

        void endDay() {
            for (int i = 0; i < count; i++) {
                pens[i].moveUp();
            }
            day++;
        }
    }

    /** WORK as a row of STEPS: behind an again stand its own, up to where it ends. */
    private static final class Work {
        private static final String WORDS = "read below hear wipe tear lay copy tune day again ";
        private static final int READ = 0;
        private static final int BELOW = 1;
        private static final int HEAR = 2;
        private static final int WIPE = 3;
        private static final int TEAR = 4;
        private static final int LAY = 5;
        private static final int COPY = 6;
        private static final int TUNE = 7;
        private static final int DAY = 8;
        private static final int AGAIN = 9;
        // The shortest STEP is "day;".
        private static final int MOST_STEPS = MOST_WORK / 4;
        private static final int MOST_READING = 99999999;
        private static final int MOST_AGAIN = 60;
        private static final int NO_OPERAND = -2;

        private final int[] words = new int[MOST_STEPS];
        private final int[] firsts = new int[MOST_STEPS];
        private final int[] seconds = new int[MOST_STEPS];
        private final int[] thirds = new int[MOST_STEPS];
        private final int[] ends = new int[MOST_STEPS];
        int steps;
        private int begun;
        int done;
        int refused;

        void parse(Tape tape, Hut hut) {
            steps = 0;
            parseSteps(tape, hut, 0);
        }

        private void parseSteps(Tape tape, Hut hut, int open) {
            for (int i = 0; i <= MOST_STEPS && tape.more(); i++) {
                if (open > 0 && tape.comes(']')) {
                    return;
                }
                parseStep(tape, hut, open);
            }
        }

        private void parseStep(Tape tape, Hut hut, int open) {
            int word = tape.word(WORDS);
            if (word == AGAIN && open >= MOST_OPEN) {
                tape.fail(TOO_MANY, tape.start);
            }
            int first = operand(tape, firstMost(word, hut));
            int second = operand(tape, secondMost(word, hut));
            int third = operand(tape, thirdMost(word));
            if (tape.failed() || steps >= MOST_STEPS) {
                return;
            }
            int here = steps;
            words[here] = word;
            firsts[here] = first;
            seconds[here] = second;
            thirds[here] = third;
            steps++;
            if (word == AGAIN) {
                tape.need('[');
                parseSteps(tape, hut, open + 1);
                tape.need(']');
            }
            ends[here] = steps;
            tape.need(';');
        }

        private static int operand(Tape tape, int most) {
            return most == NO_OPERAND ? 0 : tape.number(most);
        }

        private static int firstMost(int word, Hut hut) {
            switch (word) {
                case DAY:
                    return NO_OPERAND;
                case AGAIN:
                    return MOST_AGAIN;
                case HEAR:
                    return hut.wires - 1;
                default:
                    return hut.pens - 1;
            }
        }

        private static int secondMost(int word, Hut hut) {
            switch (word) {
                case READ:
                case BELOW:
                    return MOST_READING;
                case LAY:
                    return MOST_PLACES;
                case COPY:
                    return hut.pens - 1;
                case TUNE:
                    return MOST_TUNED;
                default:
                    return NO_OPERAND;
            }
        }

        private static int thirdMost(int word) {
            switch (word) {
                case LAY:
                case COPY:
                    return MOST_PLACES;
                case TUNE:
                    return MOST_TUNED;
                default:
                    return NO_OPERAND;
            }
        }

        void begin() {
            begun = 0;
            done = 0;
            refused = 0;
        }

        private static void run(Work work, State state, Hut hut, Law law, int from, int to, int open) {
            int i = from;
            while (i < to && i < MOST_STEPS && work.begun < MOST_BEGUN) {
                work.begun++;
                if (work.words[i] == AGAIN) {
                    for (int round = 0; round < work.firsts[i] && open < MOST_OPEN; round++) {
                        run(work, state, hut, law, i + 1, work.ends[i], open + 1);
                    }
                } else if (work.isDone(state, hut, law, i)) {
                    work.done++;
                } else {
                    work.refused++;
                }
                i = Math.max(i + 1, work.ends[i]);
            }
        }

        private boolean isDone(State state, Hut hut, Law law, int i) {
            int first = firsts[i];
            switch (words[i]) {
                case READ:
                    return state.write(first, seconds[i], law);
                case BELOW:
                    return state.write(first, -seconds[i], law);
                case HEAR:
                    return state.hear(hut.from[first], hut.to[first], law);
                case WIPE:
                    return state.pens[first].wipe();
                case TEAR:
                    return state.pens[first].tear();
                case LAY:
                    return state.pens[first].lay(seconds[i] - thirds[i]);
                case COPY:
                    return state.pens[seconds[i]].takeCopy(state.pens[first], thirds[i]);
                case TUNE:
                    return state.pens[first].tune(seconds[i], thirds[i]);
                default:
                    return isDayDone(state);
            }
        }

        private static boolean isDayDone(State state) {
            if (state.day >= MOST_DAY) {
                return false;
            }
            state.endDay();
            return true;
        }
    }

    private static final class Chain {
        final int[] pens = new int[MOST_CHAINED];
        int length;

        void clear() {
            length = 0;
        }

        void parse(Tape tape, int told) {
            length = 0;
            for (int i = 0; i <= MOST_CHAINED && tape.more(); i++) {
                int pen = tape.number(told - 1);
                if (length >= MOST_CHAINED) {
                    tape.fail(TOO_MANY, tape.start);
                    return;
                }
                pens[length] = pen;
                length++;
                tape.need(';');
            }
        }
    }

    private static final class Book {
        private static final int MOST_READING = 9999;
        private static final int MOST_OUT = 9999999;

        final int[] readings = new int[MOST_LINES];
        final int[] outs = new int[MOST_LINES];
        int lines;

        void clear() {
            lines = 0;
        }

        void parse(Tape tape) {
            lines = 0;
            for (int i = 0; i <= MOST_LINES && tape.more(); i++) {
                int reading = tape.number(MOST_READING);
                if (lines >= MOST_LINES) {
                    tape.fail(TOO_MANY, tape.start);
                    return;
                }
                readings[lines] = reading;
                outs[lines] = tape.number(MOST_OUT);
                lines++;
                tape.need(';');
            }
        }
    }

    /** What was ahead of each WORK, and the IMAGES; a State is made when its place is first needed, and used again. */
    private static final class History {
        private final State[] past = new State[MOST_WORKS];
        private final State[] imaged = new State[MOST_IMAGES];
        private final State[] imagedPast = new State[MOST_IMAGES * MOST_WORKS];
        private final int[] imagedWorks = new int[MOST_IMAGES];
        int works;
        int images;

        void clear() {
            works = 0;
            images = 0;
        }

        private static State slot(State[] row, int i) {
            if (row[i] == null) {
                row[i] = new State();
            }
            return row[i];
        }

        void keep(State now) {
            slot(past, works).copyFrom(now);
            works++;
        }

        void takeBack(State now) {
            works--;
            now.copyFrom(slot(past, works));
        }

        void takeImage(State now) {
            slot(imaged, images).copyFrom(now);
            imagedWorks[images] = works;
            for (int i = 0; i < works; i++) {
                slot(imagedPast, images * MOST_WORKS + i).copyFrom(slot(past, i));
            }
            images++;
        }

        void giveBack(State now) {
            images--;
            now.copyFrom(slot(imaged, images));
            works = imagedWorks[images];
            for (int i = 0; i < works; i++) {
                slot(past, i).copyFrom(slot(imagedPast, images * MOST_WORKS + i));
            }
        }
    }

    /** BEST: all rows of PENS from one to another, the first ones by their PENS first. */
    private static final class Rows {
        final int[] found = new int[MOST_PENS];
        int length;
        int far;
        private final int[] row = new int[MOST_PENS];
        private State state;
        private Hut hut;
        private int goal;

        void search(State now, Hut itsHut, int from, int to, int v) {
            state = now;
            hut = itsHut;
            goal = to;
            length = 0;
            far = 0;
            goOn(this, from, 0, 0, v, v);
        }

        private static void goOn(Rows rows, int pen, int depth, int used, int reading, int v) {
            if (depth >= MOST_PENS || rows.state == null || rows.hut == null || rows.state.pens[pen].jams()) {
                return;
            }
            rows.row[depth] = pen;
            int read = rows.state.pens[pen].outOf(reading);
            if (pen == rows.goal) {
                rows.weigh(depth + 1, distance(v, read));
                return;
            }
            int taken = used | 1 << pen;
            for (int next = 0; next < rows.hut.pens; next++) {
                if ((taken >> next & 1) == 0 && rows.hut.isHeardBy(pen, next)) {
                    goOn(rows, next, depth + 1, taken, read, v);
                }
            }
        }

        private void weigh(int itsLength, int itsFar) {
            boolean better = length == 0 || itsFar < far || itsFar == far && itsLength < length;
            if (better) {
                length = itsLength;
                far = itsFar;
                System.arraycopy(row, 0, found, 0, itsLength);
            }
        }
    }

    /** A SEASON, played on a State of its own. */
    private static final class Season {
        final State state = new State();
        private int seed;

        void play(State now, Hut hut, Law law, int itsSeed, int days, int q) {
            state.copyFrom(now);
            state.alarms = 0;
            state.readings = 0;
            seed = itsSeed;
            for (int day = 0; day < days; day++) {
                playDay(hut, law, q);
            }
        }

        private void playDay(Hut hut, Law law, int q) {
            if (hut.pens > 0) {
                int pen = drawnBy(hut.pens);
                state.write(pen, drawnBy(DRAWN_READING), law);
            }
            if (hut.wires > 0 && drawnBy(DRAWN_HEAR) < q) {
                int wire = drawnBy(hut.wires);
                state.hear(hut.from[wire], hut.to[wire], law);
            }
            state.endDay();
        }

        private int drawnBy(int n) {
            seed = seed * 1103515245 + 12345;
            return n > 0 ? (seed >>> 16 & 32767) % n : 0;
        }
    }
}
