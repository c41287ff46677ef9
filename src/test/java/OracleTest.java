import java.math.BigInteger;
import java.util.ArrayList;
import java.util.Arrays;
import java.util.Collections;
import java.util.HashMap;
import java.util.HashSet;
import java.util.List;
import java.util.Map;
import java.util.NoSuchElementException;
import java.util.Random;
import java.util.Set;
import java.util.regex.Matcher;
import java.util.regex.Pattern;

/** Random runs against a second, slow reading of the document, which finds every ring line by line. */
public final class OracleTest {
    private static int wrong;
    private static final List<String> trail = new ArrayList<>();

    // ---- the second reading

    /** A net as lists; lines are pairs of points. */
    private static final class Net {
        int told;
        int there;
        int taken;
        final int[] weight = new int[12];
        final List<int[]> lines = new ArrayList<>();

        Net copy() {
            Net c = new Net();
            c.told = told;
            c.there = there;
            c.taken = taken;
            System.arraycopy(weight, 0, c.weight, 0, 12);
            for (int[] l : lines) {
                c.lines.add(l.clone());
            }
            return c;
        }

        boolean has(int p) {
            return p >= 0 && p < 12 && (there & 1 << p) != 0;
        }

        int between(int a, int b) {
            int n = 0;
            for (int[] l : lines) {
                if (l[0] == a && l[1] == b || l[0] == b && l[1] == a) {
                    n++;
                }
            }
            return n;
        }

        List<int[]> linesWithin(int set) {
            List<int[]> inside = new ArrayList<>();
            for (int[] l : lines) {
                if ((set & 1 << l[0]) != 0 && (set & 1 << l[1]) != 0) {
                    inside.add(l);
                }
            }
            return inside;
        }

        int ends(int p, int set) {
            int n = 0;
            for (int[] l : linesWithin(set)) {
                n += (l[0] == p ? 1 : 0) + (l[1] == p ? 1 : 0);
            }
            return n;
        }

        int ends(int p) {
            return ends(p, there);
        }

        int parts(int set) {
            int[] root = new int[12];
            for (int i = 0; i < 12; i++) {
                root[i] = i;
            }
            for (int[] l : linesWithin(set)) {
                int from = root[l[0]];
                int to = root[l[1]];
                for (int i = 0; i < 12; i++) {
                    if (root[i] == from) {
                        root[i] = to;
                    }
                }
            }
            Set<Integer> roots = new HashSet<>();
            for (int p = 0; p < 12; p++) {
                if ((set & 1 << p) != 0) {
                    roots.add(root[p]);
                }
            }
            return roots.size();
        }

        int weightOf(int set) {
            int sum = 0;
            for (int p = 0; p < 12; p++) {
                sum += (set & 1 << p) != 0 ? weight[p] : 0;
            }
            return sum;
        }

        boolean go(int p) {
            if (!has(p)) {
                return false;
            }
            there -= 1 << p;
            lines.removeIf(l -> l[0] == p || l[1] == p);
            return true;
        }

        boolean part(int a, int b) {
            for (int i = 0; i < lines.size(); i++) {
                int[] l = lines.get(i);
                if (l[0] == a && l[1] == b || l[0] == b && l[1] == a) {
                    lines.remove(i);
                    return true;
                }
            }
            return false;
        }

        boolean join(int a, int b) {
            if (!has(a) || !has(b) || lines.size() == 20) {
                return false;
            }
            lines.add(new int[] {a, b});
            if (ends(a) > 6 || ends(b) > 6) {
                lines.remove(lines.size() - 1);
                return false;
            }
            return true;
        }

        /** The points of every ring; as often as there are rings of these points. */
        List<Integer> rings() {
            List<Integer> found = new ArrayList<>();
            for (int least = 0; least < lines.size(); least++) {
                int[] l = lines.get(least);
                if (l[0] == l[1]) {
                    found.add(1 << l[0]);
                } else {
                    walk(least, l[1], l[0], 1 << l[0], found);
                }
            }
            return found;
        }

        private void walk(int least, int goal, int at, int used, List<Integer> found) {
            for (int i = least + 1; i < lines.size(); i++) {
                int[] l = lines.get(i);
                if (l[0] == l[1] || l[0] != at && l[1] != at) {
                    continue;
                }
                int to = l[0] == at ? l[1] : l[0];
                if (to == goal) {
                    found.add(used | 1 << goal);
                } else if ((used & 1 << to) == 0) {
                    walk(least, goal, to, used | 1 << to, found);
                }
            }
        }
    }

    private static final class Fraction implements Comparable<Fraction> {
        final BigInteger above;
        final BigInteger below;

        Fraction(BigInteger a, BigInteger b) {
            BigInteger g = a.gcd(b);
            above = a.divide(g);
            below = b.divide(g);
        }

        static Fraction whole(long n) {
            return new Fraction(BigInteger.valueOf(n), BigInteger.ONE);
        }

        Fraction less(Fraction o) {
            return new Fraction(above.multiply(o.below).subtract(o.above.multiply(below)), below.multiply(o.below));
        }

        Fraction plus(Fraction o) {
            return new Fraction(above.multiply(o.below).add(o.above.multiply(below)), below.multiply(o.below));
        }

        Fraction times(long n) {
            return new Fraction(above.multiply(BigInteger.valueOf(n)), below);
        }

        Fraction by(long n) {
            return new Fraction(above, below.multiply(BigInteger.valueOf(n)));
        }

        public int compareTo(Fraction o) {
            return above.multiply(o.below).compareTo(o.above.multiply(below));
        }
    }

    private static final class Model {
        String tape = "";
        Net net = new Net();
        int fault;
        int place;
        final List<Net> past = new ArrayList<>();
        final Net[] images = new Net[2];
        List<Integer> all;
        List<Integer> sets;
        Fraction bound;

        void changed() {
            all = null;
        }

        void learn() {
            if (all == null) {
                all = net.rings();
                sets = new ArrayList<>(new HashSet<>(all));
                Collections.sort(sets);
            }
        }

        boolean isCut(int set) {
            learn();
            for (int r : sets) {
                if ((r & set) == 0) {
                    return false;
                }
            }
            return true;
        }

        int feed(int[] five) {
            if (tape.length() + 20 > 640) {
                return -1;
            }
            StringBuilder b = new StringBuilder(tape);
            for (int f : five) {
                b.append((char) (f >> 24 & 255)).append((char) (f >> 16 & 255)).append((char) (f >> 8 & 255)).append((char) (f & 255));
            }
            tape = b.toString();
            return tape.length();
        }

        boolean end(int n) {
            if (n < 0 || n > tape.length()) {
                return false;
            }
            tape = tape.substring(0, n);
            return true;
        }

        int net() {
            String text = tape;
            tape = "";
            Net read = new Net();
            int rows = read(text, read);
            if (rows < 0) {
                return rows;
            }
            fault = 0;
            net = read;
            past.clear();
            changed();
            return rows;
        }

        private int wrongAt(int kind, int at) {
            fault = kind;
            place = at;
            return -1 - at;
        }

        private int read(String text, Net into) {
            List<String> tokens = new ArrayList<>();
            List<Integer> places = new ArrayList<>();
            Matcher m = Pattern.compile("[a-z0-9]+|[^ \\n]", Pattern.DOTALL).matcher(text);
            while (m.find() && m.start() < 600) {
                tokens.add(m.group());
                places.add(m.start());
            }
            boolean over = text.length() > 600;
            tokens.add("");
            places.add(over ? 600 : text.length());
            Map<String, Integer> names = new HashMap<>();
            int i = 0;
            int rows = 0;
            while (true) {
                String word = tokens.get(i);
                int at = places.get(i);
                if (word.equals("")) {
                    return over ? wrongAt(1, 600) : rows;
                }
                if (word.equals("point")) {
                    if (names.size() == 12) {
                        return wrongAt(4, at);
                    }
                    i++;
                    String name = tokens.get(i);
                    if (!isName(name)) {
                        return wrongAt(1, places.get(i));
                    }
                    if (names.containsKey(name)) {
                        return wrongAt(3, places.get(i));
                    }
                    int p = names.size();
                    names.put(name, p);
                    into.told++;
                    into.there |= 1 << p;
                    into.weight[p] = 1;
                    i++;
                    if (tokens.get(i).matches("[0-9]{1,2}")) {
                        int w = Integer.parseInt(tokens.get(i));
                        if (w < 1 || w > 9) {
                            return wrongAt(2, places.get(i));
                        }
                        into.weight[p] = w;
                        i++;
                    }
                } else if (word.equals("line")) {
                    if (into.lines.size() == 20) {
                        return wrongAt(4, at);
                    }
                    int[] line = new int[2];
                    int[] ends = new int[12];
                    for (int k = 0; k < 2; k++) {
                        i++;
                        String name = tokens.get(i);
                        if (!isName(name)) {
                            return wrongAt(1, places.get(i));
                        }
                        if (!names.containsKey(name)) {
                            return wrongAt(3, places.get(i));
                        }
                        line[k] = names.get(name);
                        ends[line[k]]++;
                        if (into.ends(line[k]) + ends[line[k]] > 6) {
                            return wrongAt(5, places.get(i));
                        }
                    }
                    into.lines.add(line);
                    i++;
                } else {
                    return wrongAt(1, at);
                }
                if (!tokens.get(i).equals(";")) {
                    return wrongAt(1, places.get(i));
                }
                rows++;
                i++;
            }
        }

        private static boolean isName(String s) {
            return s.matches("[a-z]{1,7}") && !s.equals("point") && !s.equals("line");
        }

        long now(int what) {
            switch (what) {
                case 0: return net.told;
                case 1: return net.there;
                case 2: return net.lines.size();
                case 3: return net.taken;
                case 4: return net.parts(net.there);
                case 5: return net.weightOf(net.there);
                case 6: return past.size();
                case 7: return tape.length();
                default: return -1;
            }
        }

        Long point(int p, int what) {
            if (!net.has(p) || what < 0 || what > 3) {
                return null;
            }
            if (what == 3) {
                long set = 0;
                for (int[] l : net.lines) {
                    if (l[0] != l[1] && (l[0] == p || l[1] == p)) {
                        set |= 1L << l[0] + l[1] - p;
                    }
                }
                return set;
            }
            return (long) (what == 0 ? net.weight[p] : what == 1 ? net.ends(p) : net.between(p, p));
        }

        int lines(int a, int b) {
            return net.has(a) && net.has(b) ? net.between(a, b) : -1;
        }

        boolean outside(int set) {
            return (set & ~net.there) != 0;
        }

        int cuts(int set) {
            return outside(set) ? -1 : isCut(set) ? 1 : 0;
        }

        List<Integer> cutsOf() {
            List<Integer> cuts = new ArrayList<>();
            for (int s = 0; s < 4096; s++) {
                if (!outside(s) && isCut(s)) {
                    cuts.add(s);
                }
            }
            return cuts;
        }

        int tell(int set, int what) {
            return what == 0 ? Integer.bitCount(set) : what == 1 ? set : what == 2 ? net.weightOf(set) : -1;
        }

        int fewest(int what) {
            return tell(Collections.min(cutsOf(), (a, b) -> Integer.bitCount(a) != Integer.bitCount(b) ? Integer.bitCount(a) - Integer.bitCount(b) : a - b), what);
        }

        int lightest(int what) {
            return tell(Collections.min(cutsOf(), (a, b) -> net.weightOf(a) != net.weightOf(b) ? net.weightOf(a) - net.weightOf(b) : a - b), what);
        }

        int those(int what) {
            int few = fewest(0);
            int n = 0;
            int each = -1;
            int some = 0;
            for (int c : cutsOf()) {
                if (Integer.bitCount(c) == few) {
                    n++;
                    each &= c;
                    some |= c;
                }
            }
            return what == 0 ? n : what == 1 ? each : what == 2 ? some : -1;
        }

        int sparing(int set) {
            int best = -1;
            if (!outside(set)) {
                for (int c : cutsOf()) {
                    if ((c & set) == 0 && (best < 0 || Integer.bitCount(c) < Integer.bitCount(best))) {
                        best = c;
                    }
                }
            }
            return best;
        }

        int upTo(int p) {
            if (p < 0 || p >= net.told) {
                return -1;
            }
            Model less = new Model();
            less.net = net.copy();
            for (int q = p + 1; q < 12; q++) {
                less.net.go(q);
            }
            return less.fewest(0);
        }

        long rings() {
            learn();
            return all.size();
        }

        int shortest() {
            learn();
            int best = 0;
            for (int r : sets) {
                if (best == 0 || Integer.bitCount(r) < Integer.bitCount(best)) {
                    best = r;
                }
            }
            return best;
        }

        int mostApart(int allowed, int from) {
            int best = 0;
            for (int i = from; i < sets.size(); i++) {
                if ((sets.get(i) & ~allowed) == 0) {
                    best = Math.max(best, 1 + mostApart(allowed & ~sets.get(i), i + 1));
                }
            }
            return best;
        }

        List<Integer> packing() {
            learn();
            // Rings with a ring inside are put aside for speed; the document's choice is checked over all of them.
            List<Integer> every = sets;
            List<Integer> small = new ArrayList<>();
            for (int r : every) {
                boolean least = true;
                for (int o : every) {
                    least &= o == r || (o & ~r) != 0;
                }
                if (least) {
                    small.add(r);
                }
            }
            sets = small;
            List<Integer> chosen = new ArrayList<>();
            int rest = net.there;
            int total = mostApart(rest, 0);
            for (int k = 0; k < total; k++) {
                for (int r : every) {
                    if ((r & ~rest) == 0 && k + 1 + mostApart(rest & ~r, 0) == total) {
                        chosen.add(r);
                        rest &= ~r;
                        break;
                    }
                }
            }
            sets = every;
            return chosen;
        }

        int near() {
            learn();
            Fraction[] w = new Fraction[12];
            for (int p = 0; p < 12; p++) {
                w[p] = Fraction.whole(net.weight[p]);
            }
            int left = net.there;
            List<Integer> pile = new ArrayList<>();
            bound = Fraction.whole(0);
            while (left != 0) {
                boolean again = true;
                while (again) {
                    again = false;
                    for (int p = 11; p >= 0; p--) {
                        if ((left & 1 << p) != 0 && net.ends(p, left) < 2) {
                            left -= 1 << p;
                            again = true;
                        }
                    }
                }
                if (left == 0) {
                    break;
                }
                int ring = 0;
                for (int r : sets) {
                    int others = 0;
                    for (int p = 0; p < 12; p++) {
                        others += (r & 1 << p) != 0 && net.ends(p, left) != 2 ? 1 : 0;
                    }
                    if ((r & ~left) == 0 && others <= 1) {
                        ring = r;
                        break;
                    }
                }
                Fraction least = null;
                for (int p = 0; p < 12; p++) {
                    if (((ring != 0 ? ring : left) & 1 << p) != 0) {
                        Fraction f = ring != 0 ? w[p] : w[p].by(net.ends(p, left) - 1);
                        least = least == null || f.compareTo(least) < 0 ? f : least;
                    }
                }
                for (int p = 0; p < 12; p++) {
                    if (((ring != 0 ? ring : left) & 1 << p) != 0) {
                        w[p] = w[p].less(ring != 0 ? least : least.times(net.ends(p, left) - 1));
                    }
                }
                int times = ring != 0 ? 1 : net.linesWithin(left).size() + net.parts(left) - Integer.bitCount(left);
                bound = bound.plus(least.times(times));
                for (int p = 11; p >= 0; p--) {
                    if ((left & 1 << p) != 0 && w[p].above.signum() == 0) {
                        left -= 1 << p;
                        pile.add(p);
                    }
                }
            }
            int cut = 0;
            for (int p : pile) {
                cut |= 1 << p;
            }
            for (int i = pile.size() - 1; i >= 0; i--) {
                if (isCut(cut & ~(1 << pile.get(i)))) {
                    cut &= ~(1 << pile.get(i));
                }
            }
            return cut;
        }

        Long bound(int what) {
            near();
            return what == 0 ? (Long) bound.above.longValueExact() : what == 1 ? (Long) bound.below.longValueExact() : null;
        }

        private int step() {
            for (int p = 0; p < 12; p++) {
                if (net.has(p) && net.between(p, p) > 0) {
                    net.go(p);
                    net.taken |= 1 << p;
                    return p;
                }
            }
            for (int p = 0; p < 12; p++) {
                if (net.has(p) && net.ends(p) < 2) {
                    net.go(p);
                    return 16 + p;
                }
            }
            for (int p = 0; p < 12; p++) {
                for (int q = p + 1; q < 12; q++) {
                    if (net.between(p, q) > 2) {
                        while (net.between(p, q) > 2) {
                            net.part(p, q);
                        }
                        return 32 + p;
                    }
                }
            }
            for (int p = 0; p < 12; p++) {
                if (net.has(p) && net.ends(p) == 2) {
                    List<Integer> ends = new ArrayList<>();
                    for (int[] l : net.lines) {
                        if (l[0] == p || l[1] == p) {
                            ends.add(l[0] + l[1] - p);
                        }
                    }
                    if (net.weight[p] >= net.weight[ends.get(0)] || net.weight[p] >= net.weight[ends.get(1)]) {
                        net.go(p);
                        net.lines.add(new int[] {ends.get(0), ends.get(1)});
                        return 48 + p;
                    }
                }
            }
            return -1;
        }

        private void act(Net before) {
            past.add(before);
            if (past.size() > 8) {
                past.remove(0);
            }
            changed();
        }

        int shrink() {
            Net before = net.copy();
            int step = step();
            if (step >= 0) {
                act(before);
            }
            return step;
        }

        int shrinkAll() {
            Net before = net.copy();
            int n = 0;
            while (step() >= 0) {
                n++;
            }
            if (n > 0) {
                act(before);
            }
            return n;
        }

        int drop(int p) {
            Net before = net.copy();
            if (!net.go(p)) {
                return -1;
            }
            act(before);
            return Integer.bitCount(net.there);
        }

        int join(int a, int b) {
            if (!net.has(a) || !net.has(b)) {
                return -1;
            }
            Net before = net.copy();
            if (!net.join(a, b)) {
                return -2;
            }
            act(before);
            return net.between(a, b);
        }

        int part(int a, int b) {
            Net before = net.copy();
            if (!net.has(a) || !net.has(b) || !net.part(a, b)) {
                return -1;
            }
            act(before);
            return net.between(a, b);
        }

        int weigh(int p, int w) {
            if (!net.has(p) || w < 1 || w > 9) {
                return -1;
            }
            if (net.weight[p] == w) {
                return 1;
            }
            act(net.copy());
            net.weight[p] = w;
            return 0;
        }

        int seed;

        int draw(int n) {
            seed = seed * 1103515245 + 12345;
            return (seed >>> 8) % n;
        }

        int drawn(int n, int s) {
            if (n < 1 || n > 60) {
                return -1;
            }
            seed = s;
            Net before = net.copy();
            int done = 0;
            for (int i = 0; i < n; i++) {
                int kind = draw(8);
                if (net.told > 0) {
                    int p = draw(net.told);
                    if (kind == 0) {
                        done += net.go(p) ? 1 : 0;
                    } else if (kind == 1) {
                        int w = draw(9) + 1;
                        if (net.has(p) && net.weight[p] != w) {
                            net.weight[p] = w;
                            done++;
                        }
                    } else {
                        int q = draw(net.told);
                        boolean can = kind == 2 ? net.has(p) && net.has(q) && net.part(p, q) : net.join(p, q);
                        done += can ? 1 : 0;
                    }
                }
            }
            if (done > 0) {
                act(before);
            }
            return done;
        }

        int undo() {
            if (past.isEmpty()) {
                return -1;
            }
            net = past.remove(past.size() - 1);
            changed();
            return past.size();
        }

        boolean image(int k) {
            if (k != 0 && k != 1) {
                return false;
            }
            images[k] = net.copy();
            return true;
        }

        boolean restore(int k) {
            if (k != 0 && k != 1 || images[k] == null) {
                return false;
            }
            net = images[k].copy();
            past.clear();
            changed();
            return true;
        }
    }

    // ---- the runs

    private static RingCutters real;
    private static Model model;

    private static void due(String call, long got, long want) {
        trail.add(call + " = " + got);
        if (got != want) {
            wrong++;
            if (wrong <= 10) {
                int from = Math.max(0, trail.size() - 60);
                System.out.println("after " + trail.subList(from, trail.size() - 1) + "\n  " + call + " answered " + got + ", due is " + want);
            }
        }
    }

    private static void dueOrThrown(String call, Long got, Long want) {
        due(call + " thrown", got == null ? 1 : 0, want == null ? 1 : 0);
        if (got != null && want != null) {
            due(call, got, want);
        }
    }

    private static Long realPoint(int p, int what) {
        try {
            return (long) real.point(p, what);
        } catch (NoSuchElementException e) {
            return null;
        }
    }

    private static Long realBound(int what) {
        try {
            return real.bound(what);
        } catch (NoSuchElementException e) {
            return null;
        }
    }

    private static void begin() {
        real = new RingCutters();
        model = new Model();
        trail.clear();
    }

    private static void tell(String text) {
        for (int i = 0; i < text.length(); i += 20) {
            int[] five = new int[5];
            for (int k = 0; k < 20; k++) {
                int c = i + k < text.length() ? text.charAt(i + k) & 255 : 0;
                five[k / 4] |= c << 24 - 8 * (k % 4);
            }
            due("feed " + Arrays.toString(five), real.feed(five[0], five[1], five[2], five[3], five[4]), model.feed(five));
        }
        due("end " + text.length(), real.end(text.length()) ? 1 : 0, model.end(text.length()) ? 1 : 0);
        due("net of " + text, real.net(), model.net());
        due("fault", real.fault(), model.fault);
    }

    private static void compareAll(Random r) {
        for (int what = -1; what < 9; what++) {
            due("now " + what, real.now(what), model.now(what));
        }
        for (int p = -1; p < 13; p++) {
            for (int what = -1; what < 5; what++) {
                dueOrThrown("point " + p + " " + what, realPoint(p, what), model.point(p, what));
            }
            for (int q = -1; q < 13; q++) {
                due("lines " + p + " " + q, real.lines(p, q), model.lines(p, q));
            }
            due("upTo " + p, real.upTo(p), model.upTo(p));
        }
        for (int what = -1; what < 4; what++) {
            due("fewest " + what, real.fewest(what), model.fewest(what));
            due("lightest " + what, real.lightest(what), model.lightest(what));
            due("those " + what, real.those(what), model.those(what));
            dueOrThrown("bound " + what, realBound(what), model.bound(what));
        }
        for (int i = 0; i < 12; i++) {
            int set = r.nextInt(4) == 0 ? r.nextInt() : r.nextInt(4096) & (r.nextInt(4) == 0 ? -1 : model.net.there);
            due("cuts " + set, real.cuts(set), model.cuts(set));
            int few = set & r.nextInt(4096) & (r.nextBoolean() ? r.nextInt(4096) : -1);
            due("sparing " + few, real.sparing(few), model.sparing(few));
        }
        due("rings", real.rings(), model.rings());
        due("shortest", real.shortest(), model.shortest());
        List<Integer> packing = model.packing();
        due("packed", real.packed(), packing.size());
        for (int i = -1; i <= packing.size(); i++) {
            due("pack " + i, real.pack(i), i >= 0 && i < packing.size() ? packing.get(i) : -1);
        }
        due("near", real.near(), model.near());
    }

    // ---- random nets, texts and calls

    private static final String BLANKS = " \n";

    private static String gap(Random r, boolean needed) {
        StringBuilder b = new StringBuilder();
        for (int n = r.nextInt(4) - (needed ? 0 : 2); n > 0 || needed && b.length() == 0; n--) {
            b.append(BLANKS.charAt(r.nextInt(2)));
        }
        return b.toString();
    }

    private static char name(int p) {
        return (char) ('a' + p);
    }

    /** A text that is a net, told closely or widely. */
    private static String netText(Random r, int points, int lines) {
        StringBuilder b = new StringBuilder();
        int[] ends = new int[12];
        boolean wide = r.nextInt(4) == 0;
        int top = r.nextInt(3) == 0 ? 1 : r.nextInt(3) == 0 ? 3 : 9;
        for (int p = 0; p < points; p++) {
            b.append("point").append(wide ? gap(r, true) : " ").append(name(p));
            if (r.nextInt(3) > 0) {
                b.append(wide ? gap(r, true) : " ").append(1 + r.nextInt(top));
            }
            b.append(wide ? gap(r, false) : "").append(';').append(wide ? gap(r, false) : "");
        }
        int pool = points == 0 ? 0 : r.nextInt(3) == 0 ? 1 + r.nextInt(points) : points;
        boolean loops = r.nextInt(3) == 0;
        int told = 0;
        for (int tries = 0; tries < 300 && told < lines && pool > 0; tries++) {
            int x = r.nextInt(pool);
            int y = r.nextInt(pool);
            if (x == y && !loops) {
                continue;
            }
            ends[x]++;
            ends[y]++;
            if (ends[x] > 6 || ends[y] > 6) {
                ends[x]--;
                ends[y]--;
                continue;
            }
            told++;
            b.append("line").append(wide ? gap(r, true) : " ").append(name(x)).append(wide ? gap(r, true) : " ").append(name(y)).append(wide ? gap(r, false) : "").append(';');
        }
        return b.length() > 620 ? b.substring(0, 620) : b.toString();
    }

    private static final String[] BITS = {
        "point", "line", "a", "b", "c", "abcdefg", "abcdefgh", "1", "9", "0", "10", "01", "00", "123", "a1", "1a", ";", ";", ";", ",", "A", "\t", "\u00e9", "points", "lines", "poin"
    };

    /** Tokens, right ones and wrong ones. */
    private static String soup(Random r) {
        StringBuilder b = new StringBuilder();
        for (int n = r.nextInt(12); n > 0; n--) {
            switch (r.nextInt(5)) {
                case 0: b.append("point ").append(BITS[2 + r.nextInt(4)]).append(';'); break;
                case 1: b.append("line ").append(BITS[2 + r.nextInt(3)]).append(' ').append(BITS[2 + r.nextInt(3)]).append(';'); break;
                case 2: b.append("point ").append(BITS[2 + r.nextInt(4)]).append(' ').append(BITS[7 + r.nextInt(6)]).append(';'); break;
                case 3: b.append(BITS[r.nextInt(BITS.length)]); break;
                default: b.append(BITS[r.nextInt(BITS.length)]).append(gap(r, true)); break;
            }
        }
        return b.toString();
    }

    /** A net with one sign changed, left out, or put in. */
    private static String spoiled(Random r) {
        StringBuilder b = new StringBuilder(netText(r, 1 + r.nextInt(12), r.nextInt(21)));
        for (int n = 1 + r.nextInt(2); n > 0 && b.length() > 0; n--) {
            int at = r.nextInt(b.length());
            char c = " ;ab19z\n?".charAt(r.nextInt(9));
            switch (r.nextInt(3)) {
                case 0: b.setCharAt(at, c); break;
                case 1: b.deleteCharAt(at); break;
                default: b.insert(at, c); break;
            }
        }
        if (r.nextInt(4) == 0) {
            b.append(netText(r, 2, r.nextInt(21)));
        }
        return b.length() > 640 ? b.substring(0, 640) : b.toString();
    }

    /** A text that goes to the 600th byte and beyond. */
    private static String lengthy(Random r) {
        StringBuilder b = new StringBuilder(netText(r, r.nextInt(6), r.nextInt(12)));
        int goal = 560 + r.nextInt(60);
        while (b.length() < goal) {
            b.append(BLANKS.charAt(r.nextInt(2)));
        }
        int end = 590 + r.nextInt(51);
        b.append(r.nextBoolean() ? soup(r) : "point zz;line zz zz;");
        while (b.length() < end) {
            b.append(r.nextInt(3) == 0 ? "z" : " ");
        }
        return b.substring(0, end);
    }

    private static void change(Random r) {
        int p = r.nextInt(r.nextInt(20) == 0 ? 14 : Math.max(1, model.net.told)) - (r.nextInt(40) == 0 ? 1 : 0);
        int q = r.nextInt(r.nextInt(20) == 0 ? 14 : Math.max(1, model.net.told)) - (r.nextInt(40) == 0 ? 1 : 0);
        switch (r.nextInt(16)) {
            case 0: due("shrink", real.shrink(), model.shrink()); break;
            case 1: due("shrink", real.shrink(), model.shrink()); break;
            case 2: due("shrinkAll", real.shrinkAll(), model.shrinkAll()); break;
            case 3: due("drop " + p, real.drop(p), model.drop(p)); break;
            case 4:
            case 5:
            case 6: due("join " + p + " " + q, real.join(p, q), model.join(p, q)); break;
            case 7:
            case 8: due("part " + p + " " + q, real.part(p, q), model.part(p, q)); break;
            case 9:
            case 10: {
                int w = r.nextInt(11);
                due("weigh " + p + " " + w, real.weigh(p, w), model.weigh(p, w));
                break;
            }
            case 11: {
                int n = r.nextInt(8) == 0 ? r.nextInt(65) - 1 : r.nextInt(4);
                int s = r.nextInt();
                due("drawn " + n + " " + s, real.drawn(n, s), model.drawn(n, s));
                break;
            }
            case 12:
            case 13: due("undo", real.undo(), model.undo()); break;
            case 14: {
                int k = r.nextInt(6) == 0 ? r.nextInt(5) - 2 : r.nextInt(2);
                due("image " + k, real.image(k) ? 1 : 0, model.image(k) ? 1 : 0);
                break;
            }
            default: {
                int k = r.nextInt(6) == 0 ? r.nextInt(5) - 2 : r.nextInt(2);
                due("restore " + k, real.restore(k) ? 1 : 0, model.restore(k) ? 1 : 0);
                break;
            }
        }
    }

    private static void netRuns(Random r, int runs) {
        for (int run = 0; run < runs && wrong < 10; run++) {
            begin();
            tell(netText(r, run % 3 == 0 ? 12 : r.nextInt(13), run % 2 == 0 ? 20 : r.nextInt(21)));
            compareAll(r);
            for (int i = r.nextInt(30); i > 0; i--) {
                change(r);
                if (r.nextInt(30) == 0) {
                    tell(netText(r, r.nextInt(13), r.nextInt(21)));
                    compareAll(r);
                }
                if (r.nextInt(4) == 0) {
                    compareAll(r);
                }
            }
            compareAll(r);
        }
    }

    private static void textRuns(Random r, int runs) {
        for (int run = 0; run < runs && wrong < 10; run++) {
            begin();
            for (int i = 0; i < 6; i++) {
                tell(i % 3 == 0 ? soup(r) : i % 3 == 1 ? spoiled(r) : lengthy(r));
                due("told", real.now(0), model.now(0));
                due("lines", real.now(2), model.now(2));
                due("weight", real.now(5), model.now(5));
                due("undo", real.undo(), model.undo());
                due("join", real.join(0, 0), model.join(0, 0));
            }
        }
    }

    /** Any numbers at all: nothing but what the document names may be thrown. */
    private static void wildRuns(Random r, int runs) {
        int[] odd = {0, 1, 2, 11, 12, 13, 31, 32, 4095, 4096, -1, -2, 600, 640, Integer.MAX_VALUE, Integer.MIN_VALUE};
        for (int run = 0; run < runs && wrong < 10; run++) {
            begin();
            tell(netText(r, 12, 20));
            for (int i = 0; i < 200; i++) {
                int a = odd[r.nextInt(odd.length)];
                int b = odd[r.nextInt(odd.length)];
                String with = " " + a + " " + b;
                due("end" + with, real.end(a) ? 1 : 0, model.end(a) ? 1 : 0);
                due("now" + with, real.now(a), model.now(a));
                dueOrThrown("point" + with, realPoint(a, b), model.point(a, b));
                due("lines" + with, real.lines(a, b), model.lines(a, b));
                due("cuts" + with, real.cuts(a), model.cuts(a));
                due("sparing" + with, real.sparing(a), model.sparing(a));
                due("upTo" + with, real.upTo(a), model.upTo(a));
                due("drop" + with, real.drop(a), model.drop(a));
                due("join" + with, real.join(a, b), model.join(a, b));
                due("part" + with, real.part(a, b), model.part(a, b));
                due("weigh" + with, real.weigh(a, b), model.weigh(a, b));
                due("drawn" + with, real.drawn(a, b), model.drawn(a, b));
                due("pack" + with, real.pack(a), a >= 0 && a < model.packing().size() ? model.packing().get(a) : -1);
                due("fewest" + with, real.fewest(a), a == 0 || a == 1 || a == 2 ? model.fewest(a) : -1);
                due("restore" + with, real.restore(a) ? 1 : 0, model.restore(a) ? 1 : 0);
                due("image" + with, real.image(b) ? 1 : 0, model.image(b) ? 1 : 0);
            }
        }
    }

    public static void main(String[] args) {
        int scale = args.length > 0 ? Integer.parseInt(args[0]) : 1;
        Random r = new Random(args.length > 1 ? Long.parseLong(args[1]) : 20261119L);
        textRuns(r, 3000 * scale);
        netRuns(r, 150 * scale);
        wildRuns(r, 20 * scale);
        System.out.println(wrong == 0 ? "all answers are as due" : wrong + " answers are not as due");
        System.exit(wrong == 0 ? 0 : 1);
    }
}
