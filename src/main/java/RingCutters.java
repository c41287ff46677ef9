import java.util.NoSuchElementException;

/** Points without which a network holds no ring: the fewest, the lightest, and what goes with them. */
public final class RingCutters {
    public static final int NONE = -1;

    private static final int POINTS = 12;
    private static final int LINES = 20;
    private static final int ENDS = 6;
    private static final int HEAVIEST = 9;
    private static final int SETS = 1 << POINTS;
    private static final int FULL = -2;
    private static final int MOST_DEEDS = 60;
    // Far above the 12 points and 20 lines of which every step takes one away.
    private static final int MOST_STEPS = 1000;

    private final Tape tape;
    private final Reader reader;
    private final Net net;
    private final Past past;
    private final Kept imageZero;
    private final Kept imageOne;
    private final Draws draws;
    private final Rings rings;
    private final Packing packing;
    private final Discount discount;
    private int faultKind;
    private boolean ringsStale;
    private boolean packingStale;
    private boolean discountStale;

    public RingCutters() {
        tape = new Tape();
        reader = new Reader();
        net = new Net();
        past = new Past();
        imageZero = new Kept();
        imageOne = new Kept();
        draws = new Draws();
        rings = new Rings();
        packing = new Packing();
        discount = new Discount();
        ringsStale = true;
        packingStale = true;
        discountStale = true;
    }

    // ---- the text

    public int feed(int a, int b, int c, int d, int e) {
        if (!tape.hasRoom()) {
            return NONE;
        }
        tape.append(a);
        tape.append(b);
        tape.append(c);
        tape.append(d);
        tape.append(e);
        return tape.length;
    }

    public boolean end(int n) {
        if (n < 0 || n > tape.length) {
            return false;
        }
        tape.length = n;
        return true;
    }

    public int net() {
        faultKind = reader.readAll(tape);
        tape.length = 0;
        if (faultKind != 0) {
            return -1 - reader.place;
        }
        net.copyFrom(reader.found);
        past.forget();
        markChanged();
        return reader.rows;
    }

    public int fault() {
        return faultKind;
    }

    // ---- what is there

    public int now(int what) {
        switch (what) {
            case 0: return net.told;
            case 1: return net.there;
            case 2: return net.lineCount;
            case 3: return net.taken;
            case 4: return net.partsIn(net.there);
            case 5: return net.weightOfSet(net.there);
            case 6: return past.count;
            case 7: return tape.length;
            default: return NONE;
        }
    }

    public int point(int p, int what) throws NoSuchElementException {
        if (!net.isThere(p) || what < 0 || what > 3) {
            throw new NoSuchElementException("no such point, or nothing of that kind is told of it");
        }
        switch (what) {
            case 0: return net.weightOf(p);
            case 1: return net.endsIn(p, net.there);
            case 2: return net.linesOf(p, p);
            default: return net.besides(p, 1);
        }
    }

    public int lines(int a, int b) {
        return net.isThere(a) && net.isThere(b) ? net.linesOf(a, b) : NONE;
    }

    // ---- cuts

    public int cuts(int set) {
        if (!net.areThere(set)) {
            return NONE;
        }
        return ringsNow().isFree(net.there & ~set) ? 1 : 0;
    }

    public int fewest(int what) {
        return what < 0 || what > 2 ? NONE : tellSet(ringsNow().fewestOf(net.there, 0), what);
    }

    public int lightest(int what) {
        return what < 0 || what > 2 ? NONE : tellSet(lightestCut(), what);
    }

    public int those(int what) {
        if (what < 0 || what > 2) {
            return NONE;
        }
        Rings now = ringsNow();
        int size = Integer.bitCount(now.fewestOf(net.there, 0));
        int many = 0;
        int each = net.there;
        int some = 0;
        for (int set = 0; set <= net.there; set++) {
            if (net.areThere(set) && Integer.bitCount(set) == size && now.isFree(net.there & ~set)) {
                many++;
                each &= set;
                some |= set;
            }
        }
        return what == 0 ? many : what == 1 ? each : some;
    }

    public int sparing(int set) {
        return net.areThere(set) ? ringsNow().fewestOf(net.there, set) : NONE;
    }

    public int upTo(int p) {
        if (p < 0 || p >= net.told || p >= POINTS) {
            return NONE;
        }
        int base = net.there & ((2 << p) - 1);
        return Integer.bitCount(ringsNow().fewestOf(base, 0));
    }

    // ---- rings

    public long rings() {
        return RingCount.of(net);
    }

    public int shortest() {
        return ringsNow().shortestRing();
    }

    public int packed() {
        return packingNow().mostIn(net.there);
    }

    public int pack(int i) {
        return i < 0 ? NONE : packingNow().ringAt(i, net.there, rings);
    }

    public int near() {
        return discountNow().cut;
    }

    public long bound(int what) throws NoSuchElementException {
        if (what != 0 && what != 1) {
            throw new NoSuchElementException("a fraction has a number above and one below");
        }
        Discount now = discountNow();
        return what == 0 ? now.boundAbove() : now.boundBelow();
    }

    // ---- changes

    public int shrink() {
        past.note(net);
        int step = Shrinker.step(net);
        if (step != NONE) {
            keepAct();
        }
        return step;
    }

    public int shrinkAll() {
        past.note(net);
        int steps = 0;
        for (int i = 0; i < MOST_STEPS && Shrinker.step(net) != NONE; i++) {
            steps++;
        }
        if (steps > 0) {
            keepAct();
        }
        return steps;
    }

    public int drop(int p) {
        past.note(net);
        if (!net.remove(p)) {
            return NONE;
        }
        keepAct();
        return Integer.bitCount(net.there);
    }

    public int join(int a, int b) {
        if (!net.isThere(a) || !net.isThere(b)) {
            return NONE;
        }
        past.note(net);
        if (!net.addLine(a, b)) {
            return FULL;
        }
        keepAct();
        return net.linesOf(a, b);
    }

    public int part(int a, int b) {
        past.note(net);
        if (!net.takeLine(a, b)) {
            return NONE;
        }
        keepAct();
        return net.linesOf(a, b);
    }

    public int weigh(int p, int w) {
        if (!net.isThere(p) || w < 1 || w > HEAVIEST) {
            return NONE;
        }
        past.note(net);
        if (!net.changeWeight(p, w)) {
            return 1;
        }
        keepAct();
        return 0;
    }

    public int drawn(int n, int seed) {
        if (n < 1 || n > MOST_DEEDS) {
            return NONE;
        }
        past.note(net);
        draws.seed = seed;
        int done = 0;
        for (int i = 0; i < n; i++) {
            if (doDeed()) {
                done++;
            }
        }
        if (done > 0) {
            keepAct();
        }
        return done;
    }

    public int undo() {
        if (!past.giveLatest(net)) {
            return NONE;
        }
        markChanged();
        return past.count;
    }

    public boolean image(int k) {
        Kept kept = keptAt(k);
        if (kept == null) {
            return false;
        }
        kept.copy.copyFrom(net);
        kept.filled = true;
        return true;
    }

    public boolean restore(int k) {
        Kept kept = keptAt(k);
        if (kept == null || !kept.filled) {
            return false;
        }
        net.copyFrom(kept.copy);
        past.forget();
        markChanged();
        return true;
    }

    // ---- help for the calls above

    private void markChanged() {
        ringsStale = true;
        packingStale = true;
        discountStale = true;
    }

    private void keepAct() {
        past.keepNoted();
        markChanged();
    }

    private Kept keptAt(int k) {
        return k == 0 ? imageZero : k == 1 ? imageOne : null;
    }

    private Rings ringsNow() {
        if (ringsStale) {
            rings.learn(net);
            ringsStale = false;
        }
        return rings;
    }

    private Packing packingNow() {
        if (packingStale) {
            packing.learn(net.there, ringsNow());
            packingStale = false;
        }
        return packing;
    }

    private Discount discountNow() {
        if (discountStale) {
            discount.run(net, ringsNow());
            discountStale = false;
        }
        return discount;
    }

    private int tellSet(int set, int what) {
        return what == 0 ? Integer.bitCount(set) : what == 1 ? set : net.weightOfSet(set);
    }

    private int lightestCut() {
        Rings now = ringsNow();
        int best = net.there;
        int least = net.weightOfSet(best);
        for (int set = 0; set <= net.there; set++) {
            if (net.areThere(set) && now.isFree(net.there & ~set)) {
                int weight = net.weightOfSet(set);
                if (weight < least) {
                    least = weight;
                    best = set;
                }
            }
        }
        return best;
    }

    private boolean doDeed() {
        int kind = draws.below(8);
        if (net.told == 0) {
            return false;
        }
        int p = draws.below(net.told);
        if (kind == 0) {
            return net.remove(p);
        }
        if (kind == 1) {
            return net.changeWeight(p, draws.below(HEAVIEST) + 1);
        }
        int q = draws.below(net.told);
        return kind == 2 ? net.takeLine(p, q) : net.addLine(p, q);
    }

    /** The bytes that were fed. */
    private static final class Tape {
        static final int ROOM = 640;
        static final int FED_AT_ONCE = 20;

        final int[] bytes = new int[ROOM];
        int length;

        boolean hasRoom() {
            return length <= ROOM - FED_AT_ONCE;
        }

        void append(int four) {
            for (int shift = 24; shift >= 0; shift -= 8) {
                if (length >= 0 && length < bytes.length) {
                    bytes[length] = (four >>> shift) & 255;
                    length++;
                }
            }
        }

        /** No byte (0) outside the tape: a byte that ends every word and number. */
        int byteAt(int i) {
            return i >= 0 && i < length && i < bytes.length ? bytes[i] : 0;
        }
    }

    /** Reads a tape into a net of its own, so that a fault leaves the net in use as it is. */
    private static final class Reader {
        static final int LONGEST_TEXT = 600;
        static final int LONGEST_WORD = 7;
        static final int LONGEST_NUMBER = 2;
        static final int LETTERS = 27;
        // Words as numbers of base 27, a as 1: no two words are like.
        static final long WORD_POINT = (((16L * LETTERS + 15) * LETTERS + 9) * LETTERS + 14) * LETTERS + 20;
        static final long WORD_LINE = ((12L * LETTERS + 9) * LETTERS + 14) * LETTERS + 5;

        static final int NO_TOKEN = 0;
        static final int WORD = 1;
        static final int NUMBER = 2;
        static final int SIGN = 3;

        static final int AT_ROW = 0;
        static final int AT_NAME = 1;
        static final int AT_WEIGHT = 2;
        static final int AT_SIGN = 3;
        static final int AT_FIRST = 4;
        static final int AT_SECOND = 5;

        static final int FAULT_TOKEN = 1;
        static final int FAULT_NUMBER = 2;
        static final int FAULT_NAME = 3;
        static final int FAULT_MANY = 4;
        static final int FAULT_ENDS = 5;

        final Net found = new Net();
        final long[] names = new long[POINTS];
        int rows;
        int place;
        int expected;
        int first;
        int kind;
        long value;
        int next;

        /** The kind of the fault, 0 without one. */
        int readAll(Tape tape) {
            found.empty();
            rows = 0;
            expected = AT_ROW;
            first = NONE;
            int limit = Math.min(tape.length, LONGEST_TEXT);
            place = 0;
            for (int i = 0; i < Tape.ROOM && place < limit; i++) {
                int c = tape.byteAt(place);
                next = place + 1;
                if (c != ' ' && c != '\n') {
                    readToken(tape);
                    int fault = takeToken();
                    if (fault != 0) {
                        return fault;
                    }
                }
                place = next;
            }
            place = limit;
            return tape.length > LONGEST_TEXT || expected != AT_ROW ? FAULT_TOKEN : 0;
        }

        void readToken(Tape tape) {
            int c = tape.byteAt(place);
            kind = c == ';' ? SIGN : NO_TOKEN;
            value = 0;
            if (!isLetter(c) && !isDigit(c)) {
                return;
            }
            boolean letters = true;
            boolean digits = true;
            int length = 0;
            for (int i = place; i < Tape.ROOM && (isLetter(tape.byteAt(i)) || isDigit(tape.byteAt(i))); i++) {
                c = tape.byteAt(i);
                letters &= isLetter(c);
                digits &= isDigit(c);
                length++;
                if (length <= LONGEST_WORD) {
                    value = letters ? value * LETTERS + (c - 'a' + 1) : value * 10 + (c - '0');
                }
            }
            next = place + length;
            if (letters && length <= LONGEST_WORD) {
                kind = WORD;
            } else if (digits && length <= LONGEST_NUMBER) {
                kind = NUMBER;
            }
        }

        static boolean isLetter(int c) {
            return c >= 'a' && c <= 'z';
        }

        static boolean isDigit(int c) {
            return c >= '0' && c <= '9';
        }

        int takeToken() {
            switch (expected) {
                case AT_ROW: return beginRow();
                case AT_NAME: return takeName();
                case AT_WEIGHT: return kind == NUMBER ? takeWeight() : takeSign();
                case AT_FIRST: return takeFirst();
                case AT_SECOND: return takeSecond();
                default: return takeSign();
            }
        }

        int beginRow() {
            if (kind != WORD || (value != WORD_POINT && value != WORD_LINE)) {
                return FAULT_TOKEN;
            }
            boolean isPoint = value == WORD_POINT;
            if (isPoint ? found.told >= POINTS : found.lineCount >= LINES) {
                return FAULT_MANY;
            }
            expected = isPoint ? AT_NAME : AT_FIRST;
            return 0;
        }

        boolean isName() {
            return kind == WORD && value != WORD_POINT && value != WORD_LINE;
        }

        int pointNamed(long name) {
            for (int p = 0; p < names.length && p < found.told; p++) {
                if (names[p] == name) {
                    return p;
                }
            }
            return NONE;
        }

        int takeName() {
            if (!isName()) {
                return FAULT_TOKEN;
            }
            int p = found.told;
            if (pointNamed(value) != NONE) {
                return FAULT_NAME;
            }
            if (p < 0 || p >= names.length) {
                return FAULT_MANY;
            }
            names[p] = value;
            found.addPoint();
            expected = AT_WEIGHT;
            return 0;
        }

        int takeWeight() {
            if (value < 1 || value > HEAVIEST) {
                return FAULT_NUMBER;
            }
            found.changeWeight(found.told - 1, (int) value);
            expected = AT_SIGN;
            return 0;
        }

        int takeSign() {
            if (kind != SIGN) {
                return FAULT_TOKEN;
            }
            rows++;
            expected = AT_ROW;
            return 0;
        }

        int takeFirst() {
            if (!isName()) {
                return FAULT_TOKEN;
            }
            first = pointNamed(value);
            if (first == NONE) {
                return FAULT_NAME;
            }
            if (found.endsIn(first, found.there) >= ENDS) {
                return FAULT_ENDS;
            }
            expected = AT_SECOND;
            return 0;
        }

        int takeSecond() {
            if (!isName()) {
                return FAULT_TOKEN;
            }
            int second = pointNamed(value);
            if (second == NONE) {
                return FAULT_NAME;
            }
            if (!found.addLine(first, second)) {
                return FAULT_ENDS;
            }
            expected = AT_SIGN;
            return 0;
        }
    }

    /** The points, their weights and the lines between them. */
    private static final class Net {
        final int[] weights = new int[POINTS];
        final int[] between = new int[POINTS * POINTS];
        int told;
        int there;
        int taken;
        int lineCount;

        void empty() {
            told = 0;
            there = 0;
            taken = 0;
            lineCount = 0;
            for (int i = 0; i < between.length; i++) {
                between[i] = 0;
            }
        }

        void copyFrom(Net other) {
            told = other.told;
            there = other.there;
            taken = other.taken;
            lineCount = other.lineCount;
            for (int i = 0; i < weights.length && i < other.weights.length; i++) {
                weights[i] = other.weights[i];
            }
            for (int i = 0; i < between.length && i < other.between.length; i++) {
                between[i] = other.between[i];
            }
        }

        static boolean holds(int set, int p) {
            return p >= 0 && p < POINTS && ((set >> p) & 1) != 0;
        }

        boolean isThere(int p) {
            return holds(there, p);
        }

        boolean areThere(int set) {
            return (set & ~there) == 0;
        }

        void addPoint() {
            if (told >= 0 && told < weights.length) {
                weights[told] = 1;
                there |= 1 << told;
                told++;
            }
        }

        int weightOf(int p) {
            return p >= 0 && p < weights.length ? weights[p] : 0;
        }

        int weightOfSet(int set) {
            int sum = 0;
            for (int p = 0; p < POINTS; p++) {
                if (holds(set, p)) {
                    sum += weightOf(p);
                }
            }
            return sum;
        }

        /** Loops, if the two are one. */
        int linesOf(int a, int b) {
            int i = a * POINTS + b;
            return a >= 0 && a < POINTS && b >= 0 && b < POINTS && i < between.length ? between[i] : 0;
        }

        void setLines(int a, int b, int many) {
            int i = a * POINTS + b;
            int j = b * POINTS + a;
            if (holds(there, a) && holds(there, b) && i < between.length && j < between.length) {
                lineCount += many - between[i];
                between[i] = many;
                between[j] = many;
            }
        }

        /** Those to which a point has so many lines or more, itself not. */
        int besides(int p, int many) {
            int set = 0;
            for (int q = 0; q < POINTS; q++) {
                if (q != p && linesOf(p, q) >= many) {
                    set |= 1 << q;
                }
            }
            return set;
        }

        /** The ends at a point, if there were those of a set alone. */
        int endsIn(int p, int set) {
            int sum = linesOf(p, p);
            for (int q = 0; q < POINTS; q++) {
                if (holds(set, q)) {
                    sum += linesOf(p, q);
                }
            }
            return sum;
        }

        int linesIn(int set) {
            int ends = 0;
            for (int p = 0; p < POINTS; p++) {
                if (holds(set, p)) {
                    ends += endsIn(p, set);
                }
            }
            return ends / 2;
        }

        int partsIn(int set) {
            int rest = set;
            int parts = 0;
            for (int p = 0; p < POINTS; p++) {
                if (holds(rest, p)) {
                    parts++;
                    rest &= ~reachedFrom(p, rest);
                }
            }
            return parts;
        }

        int reachedFrom(int p, int set) {
            int reached = 1 << p;
            int passed = 0;
            // Each round passes one point more, as long as there is one.
            for (int round = 0; round < POINTS && reached != passed; round++) {
                int a = Rings.lowest(reached & ~passed);
                passed |= 1 << a;
                for (int b = 0; b < POINTS; b++) {
                    if (linesOf(a, b) > 0) {
                        reached |= (1 << b) & set;
                    }
                }
            }
            return reached;
        }

        boolean remove(int p) {
            if (!isThere(p)) {
                return false;
            }
            for (int q = 0; q < POINTS; q++) {
                setLines(p, q, 0);
            }
            there &= ~(1 << p);
            return true;
        }

        boolean addLine(int a, int b) {
            if (!isThere(a) || !isThere(b) || lineCount >= LINES) {
                return false;
            }
            int more = a == b ? 2 : 1;
            if (endsIn(a, there) + more > ENDS || endsIn(b, there) + more > ENDS) {
                return false;
            }
            setLines(a, b, linesOf(a, b) + 1);
            return true;
        }

        boolean takeLine(int a, int b) {
            if (!isThere(a) || !isThere(b) || linesOf(a, b) <= 0) {
                return false;
            }
            setLines(a, b, linesOf(a, b) - 1);
            return true;
        }

        /** False, if it has that weight. */
        boolean changeWeight(int p, int w) {
            if (!isThere(p) || p >= weights.length || weights[p] == w) {
                return false;
            }
            weights[p] = w;
            return true;
        }
    }

    /** The net as it was ahead of the latest acts. */
    private static final class Past {
        static final int ACTS = 8;
        // One place more than acts: an act is noted before it is known whether it comes to anything.
        static final int PLACES = ACTS + 1;

        final Net[] places;
        int count;
        int latest;

        Past() {
            places = new Net[PLACES];
            for (int i = 0; i < places.length; i++) {
                places[i] = new Net();
            }
        }

        void forget() {
            count = 0;
        }

        Net placeAt(int i) {
            return i >= 0 && i < places.length ? places[i] : null;
        }

        void note(Net net) {
            Net place = placeAt((latest + 1) % PLACES);
            if (place != null) {
                place.copyFrom(net);
            }
        }

        void keepNoted() {
            latest = (latest + 1) % PLACES;
            count = Math.min(ACTS, count + 1);
        }

        boolean giveLatest(Net net) {
            Net place = placeAt(latest);
            if (count <= 0 || place == null) {
                return false;
            }
            net.copyFrom(place);
            latest = (latest + PLACES - 1) % PLACES;
            count--;
            return true;
        }
    }

    /** A net that was kept by image. */
    private static final class Kept {
        final Net copy = new Net();
        boolean filled;
    }

    private static final class Draws {
        int seed;

        int below(int n) {
            seed = seed * 1103515245 + 12345;
            return n > 0 ? (seed >>> 8) % n : 0;
        }
    }

    /** The rules by which a net shrinks. */
    private static final class Shrinker {
        static final int RULE = 16;

        static int step(Net net) {
            int p = takeLooped(net);
            if (p != NONE) {
                return p;
            }
            p = removeTip(net);
            if (p != NONE) {
                return RULE + p;
            }
            p = thinLines(net);
            if (p != NONE) {
                return 2 * RULE + p;
            }
            p = passBy(net);
            return p != NONE ? 3 * RULE + p : NONE;
        }

        static int takeLooped(Net net) {
            for (int p = 0; p < POINTS; p++) {
                if (net.isThere(p) && net.linesOf(p, p) > 0) {
                    net.remove(p);
                    net.taken |= 1 << p;
                    return p;
                }
            }
            return NONE;
        }

        static int removeTip(Net net) {
            for (int p = 0; p < POINTS; p++) {
                if (net.isThere(p) && net.endsIn(p, net.there) <= 1) {
                    net.remove(p);
                    return p;
                }
            }
            return NONE;
        }

        static int thinLines(Net net) {
            for (int p = 0; p < POINTS; p++) {
                for (int q = p + 1; q < POINTS; q++) {
                    if (net.linesOf(p, q) > 2) {
                        net.setLines(p, q, 2);
                        return p;
                    }
                }
            }
            return NONE;
        }

        /** Used when no point has a loop: the two ends lead to one other point or to two. */
        static int passBy(Net net) {
            for (int p = 0; p < POINTS; p++) {
                if (net.isThere(p) && net.endsIn(p, net.there) == 2) {
                    int others = net.besides(p, 1);
                    int a = Rings.lowest(others);
                    int b = Rings.lowest(others & (others - 1));
                    if (b == NONE) {
                        b = a;
                    }
                    if (net.weightOf(p) >= Math.min(net.weightOf(a), net.weightOf(b))) {
                        net.remove(p);
                        net.addLine(a, b);
                        return p;
                    }
                }
            }
            return NONE;
        }
    }

    /** How many rings: ways from a ring's least point round and back, of which each ring has two. */
    private static final class RingCount {
        static long of(Net net) {
            long all = 0;
            long ways = 0;
            for (int p = 0; p < POINTS; p++) {
                all += net.linesOf(p, p);
                for (int q = p + 1; q < POINTS; q++) {
                    int many = net.linesOf(p, q);
                    all += many * (many - 1) / 2;
                }
                if (net.isThere(p)) {
                    ways += waysBack(net, p, p, 1 << p, 1);
                }
            }
            return all + ways / 2;
        }

        private static long waysBack(Net net, int first, int at, int used, int depth) {
            if (depth > POINTS) {
                return 0;
            }
            // A way of two points and back is counted with the pairs of lines.
            long sum = depth > 2 ? net.linesOf(at, first) : 0;
            for (int q = first + 1; q < POINTS; q++) {
                int many = net.linesOf(at, q);
                if (many > 0 && !Net.holds(used, q)) {
                    sum += many * waysBack(net, first, q, used | (1 << q), depth + 1);
                }
            }
            return sum;
        }
    }

    /** Which sets of points hold no ring, and the rings that have no smaller one among their points. */
    private static final class Rings {
        // No such ring is part of another: of 12 points there are at most 924 such sets (6 of 12).
        static final int MOST_RINGS = 924;

        final boolean[] free = new boolean[SETS];
        final int[] beside = new int[POINTS];
        final int[] doubled = new int[POINTS];
        final int[] ringSets = new int[MOST_RINGS];
        // Where the rings begin whose least point is p; behind them begin those of p + 1, or none do.
        final int[] starts = new int[POINTS];
        int many;

        /** The least point of a set; NONE, if it has none. */
        static int lowest(int set) {
            return set == 0 ? NONE : Integer.bitCount((set & -set) - 1);
        }

        void learn(Net net) {
            for (int p = 0; p < beside.length && p < doubled.length; p++) {
                int self = net.linesOf(p, p) > 0 ? 1 << p : 0;
                beside[p] = net.besides(p, 1);
                doubled[p] = net.besides(p, 2) | self;
            }
            for (int set = 0; set <= net.there && set < free.length; set++) {
                if (net.areThere(set)) {
                    // A ring in a part of the set is one in the set, too.
                    free[set] = set == 0 || (isFree(set & (set - 1)) && isFreeByTip(set));
                }
            }
            learnRings(net.there);
        }

        /** Without a point that has one end or none there is a ring; with one it takes no part in any. */
        boolean isFreeByTip(int set) {
            for (int p = 0; p < beside.length && p < doubled.length; p++) {
                int others = beside[p] & set;
                if (Net.holds(set, p) && (doubled[p] & set) == 0 && (others & (others - 1)) == 0) {
                    return isFree(set & ~(1 << p));
                }
            }
            return false;
        }

        void learnRings(int there) {
            many = 0;
            for (int p = 0; p < starts.length; p++) {
                starts[p] = many;
                int bit = 1 << p;
                for (int set = bit; set <= there; set += 2 * bit) {
                    if ((set & ~there) == 0 && isLeastRing(set) && many < ringSets.length) {
                        ringSets[many] = set;
                        many++;
                    }
                }
            }
        }

        boolean isLeastRing(int set) {
            if (isFree(set)) {
                return false;
            }
            for (int p = 0; p < POINTS; p++) {
                if (Net.holds(set, p) && !isFree(set & ~(1 << p))) {
                    return false;
                }
            }
            return true;
        }

        boolean isFree(int set) {
            return set >= 0 && set < free.length && free[set];
        }

        int ringAt(int i) {
            return i >= 0 && i < ringSets.length && i < many ? ringSets[i] : 0;
        }

        int startOf(int p) {
            return p >= 0 && p < starts.length ? starts[p] : many;
        }

        /** The fewest points of a set without which it holds no ring, none of them spared; NONE: there are none. */
        int fewestOf(int base, int spared) {
            int best = NONE;
            int least = POINTS + 1;
            for (int set = 0; set <= base; set++) {
                if ((set & ~base) == 0 && (set & spared) == 0 && Integer.bitCount(set) < least && isFree(base & ~set)) {
                    best = set;
                    least = Integer.bitCount(set);
                }
            }
            return best;
        }

        int shortestRing() {
            int best = 0;
            for (int i = 0; i < many; i++) {
                int ring = ringAt(i);
                int less = Integer.bitCount(ring) - Integer.bitCount(best);
                if (best == 0 || less < 0 || (less == 0 && ring < best)) {
                    best = ring;
                }
            }
            return best;
        }
    }

    /** The most rings that lie apart, within each set of points. */
    private static final class Packing {
        final int[] most = new int[SETS];

        void learn(int there, Rings rings) {
            for (int set = 0; set <= there && set < most.length; set++) {
                if ((set & ~there) == 0) {
                    most[set] = set == 0 ? 0 : mostWithLowest(set, rings);
                }
            }
        }

        int mostIn(int set) {
            return set >= 0 && set < most.length ? most[set] : 0;
        }

        int mostWithLowest(int set, Rings rings) {
            int low = Rings.lowest(set);
            int best = mostIn(set & (set - 1));
            int end = rings.startOf(low + 1);
            for (int i = rings.startOf(low); i < end; i++) {
                int ring = rings.ringAt(i);
                if ((ring & ~set) == 0) {
                    best = Math.max(best, 1 + mostIn(set & ~ring));
                }
            }
            return best;
        }

        int ringAt(int i, int there, Rings rings) {
            int total = mostIn(there);
            if (i < 0 || i >= total) {
                return NONE;
            }
            int rest = there;
            int ring = 0;
            for (int k = 0; k <= i; k++) {
                ring = leastOfMost(rest, rings);
                rest &= ~ring;
            }
            return ring;
        }

        /** A ring with a smaller one among its points is never the least, so the smaller ones are enough. */
        int leastOfMost(int rest, Rings rings) {
            int best = 0;
            for (int i = 0; i < rings.many; i++) {
                int ring = rings.ringAt(i);
                boolean fits = (ring & ~rest) == 0 && 1 + mostIn(rest & ~ring) == mostIn(rest);
                if (fits && (best == 0 || ring < best)) {
                    best = ring;
                }
            }
            return best;
        }
    }

    /** The cut by weights that are taken down together; all weights are told over one number below. */
    private static final class Discount {
        // Above the steps that two numbers of a long can ever need.
        static final int MOST_DIVISIONS = 200;

        final long[] weights = new long[POINTS];
        final int[] pile = new int[POINTS];
        int piled;
        int left;
        int cut;
        long sum;
        long below;

        void run(Net net, Rings rings) {
            begin(net);
            // Each round at least one weight comes to 0, or none are left.
            for (int round = 0; round < POINTS && left != 0; round++) {
                strip(net);
                if (left != 0) {
                    int ring = leastOpenRing(net, rings);
                    if (ring != 0) {
                        takeFromRing(ring);
                    } else {
                        takeFromAll(net);
                    }
                    pileWeightless();
                }
            }
            giveBack(net.there, rings);
        }

        void begin(Net net) {
            for (int p = 0; p < weights.length; p++) {
                weights[p] = net.weightOf(p);
            }
            left = net.there;
            piled = 0;
            sum = 0;
            below = 1;
        }

        void strip(Net net) {
            for (int round = 0; round < POINTS; round++) {
                int ahead = left;
                for (int p = 0; p < POINTS; p++) {
                    if (Net.holds(left, p) && net.endsIn(p, left) <= 1) {
                        left &= ~(1 << p);
                    }
                }
                if (left == ahead) {
                    return;
                }
            }
        }

        /** A ring with a smaller one among its points never has the least number, so the smaller ones are enough. */
        int leastOpenRing(Net net, Rings rings) {
            int busy = 0;
            for (int p = 0; p < POINTS; p++) {
                if (Net.holds(left, p) && net.endsIn(p, left) > 2) {
                    busy |= 1 << p;
                }
            }
            int best = 0;
            for (int i = 0; i < rings.many; i++) {
                int ring = rings.ringAt(i);
                boolean open = (ring & ~left) == 0 && Integer.bitCount(ring & busy) <= 1;
                if (open && (best == 0 || ring < best)) {
                    best = ring;
                }
            }
            return best;
        }

        void takeFromRing(int ring) {
            long least = Long.MAX_VALUE;
            for (int p = 0; p < weights.length; p++) {
                if (Net.holds(ring, p)) {
                    least = Math.min(least, weights[p]);
                }
            }
            for (int p = 0; p < weights.length; p++) {
                if (Net.holds(ring, p)) {
                    weights[p] -= least;
                }
            }
            sum += least;
        }

        void takeFromAll(Net net) {
            long least = 0;
            int by = 0;
            for (int p = 0; p < weights.length; p++) {
                if (Net.holds(left, p)) {
                    int spare = net.endsIn(p, left) - 1;
                    if (by == 0 || weights[p] * by < least * spare) {
                        least = weights[p];
                        by = spare;
                    }
                }
            }
            // Over the number below times by the least is least itself.
            below *= by;
            sum *= by;
            for (int p = 0; p < weights.length; p++) {
                weights[p] *= by;
                if (Net.holds(left, p)) {
                    weights[p] -= least * (net.endsIn(p, left) - 1);
                }
            }
            sum += least * (net.linesIn(left) + net.partsIn(left) - Integer.bitCount(left));
        }

        void pileWeightless() {
            for (int p = weights.length - 1; p >= 0; p--) {
                if (Net.holds(left, p) && weights[p] == 0 && piled < pile.length) {
                    left &= ~(1 << p);
                    pile[piled] = p;
                    piled++;
                }
            }
        }

        void giveBack(int there, Rings rings) {
            cut = 0;
            for (int i = 0; i < piled && i < pile.length; i++) {
                cut |= 1 << pile[i];
            }
            for (int i = Math.min(piled, pile.length) - 1; i >= 0; i--) {
                int less = cut & ~(1 << pile[i]);
                if (rings.isFree(there & ~less)) {
                    cut = less;
                }
            }
        }

        long boundAbove() {
            long common = commonDivisor();
            return common != 0 ? sum / common : 0;
        }

        long boundBelow() {
            long common = commonDivisor();
            return common != 0 ? below / common : 1;
        }

        long commonDivisor() {
            long a = below;
            long b = sum;
            for (int i = 0; i < MOST_DIVISIONS && b != 0; i++) {
                long rest = a % b;
                a = b;
                b = rest;
            }
            return a;
        }
    }
}
