import java.math.BigInteger;
import java.util.ArrayDeque;
import java.util.ArrayList;
import java.util.Arrays;
import java.util.BitSet;
import java.util.HashMap;
import java.util.HashSet;
import java.util.LinkedHashMap;
import java.util.List;
import java.util.Map;
import java.util.NoSuchElementException;
import java.util.Set;

/**
 * The document once more, in its plainest and slowest form: each answer straight from its
 * definition, nothing kept between calls. Random runs hold the program against it.
 */
final class Model {
    static final int NONE = -1;

    /** A net with its marking; takes[s][p], gives[s][p]. */
    static final class State {
        int[][] takes = new int[0][0];
        int[][] gives = new int[0][0];
        int[] tokens = new int[0];
        boolean[] place = new boolean[0];
        boolean[] step = new boolean[0];

        State copy() {
            State c = new State();
            c.takes = copy(takes);
            c.gives = copy(gives);
            c.tokens = tokens.clone();
            c.place = place.clone();
            c.step = step.clone();
            return c;
        }

        static int[][] copy(int[][] rows) {
            int[][] c = new int[rows.length][];
            for (int i = 0; i < rows.length; i++) {
                c[i] = rows[i].clone();
            }
            return c;
        }

        boolean hasPlace(int p) {
            return p >= 0 && p < place.length && place[p];
        }

        boolean hasStep(int s) {
            return s >= 0 && s < step.length && step[s];
        }

        List<Integer> places() {
            return on(place);
        }

        List<Integer> steps() {
            return on(step);
        }

        static List<Integer> on(boolean[] flags) {
            List<Integer> list = new ArrayList<>();
            for (int i = 0; i < flags.length; i++) {
                if (flags[i]) {
                    list.add(i);
                }
            }
            return list;
        }

        boolean can(int s, int[] marking) {
            for (int p : places()) {
                if (marking[p] < takes[s][p] || marking[p] - takes[s][p] + gives[s][p] > 999) {
                    return false;
                }
            }
            return true;
        }

        int[] after(int s, int[] marking) {
            int[] next = marking.clone();
            for (int p : places()) {
                next[p] += gives[s][p] - takes[s][p];
            }
            return next;
        }

        int canBits(int[] marking) {
            int bits = 0;
            for (int s : steps()) {
                if (can(s, marking)) {
                    bits |= 1 << s;
                }
            }
            return bits;
        }
    }

    final List<Integer> tape = new ArrayList<>();
    State net = new State();
    int[] aim = new int[10];
    int fault = 0;
    int faultAt = NONE;
    final ArrayDeque<State> acts = new ArrayDeque<>();

    // ---- the text

    int feed(int... five) {
        if (tape.size() + 20 > 900) {
            return NONE;
        }
        for (int n : five) {
            tape.add(n >>> 24);
            tape.add(n >>> 16 & 255);
            tape.add(n >>> 8 & 255);
            tape.add(n & 255);
        }
        return tape.size();
    }

    int end(int n) {
        if (n < 0 || n > tape.size()) {
            return NONE;
        }
        while (tape.size() > n) {
            tape.remove(tape.size() - 1);
        }
        return n;
    }

    int net() {
        StringBuilder text = new StringBuilder();
        for (int b : tape) {
            text.append((char) b);
        }
        tape.clear();
        Text reader = new Text(text.toString());
        State read = reader.read();
        fault = reader.fault;
        faultAt = reader.faultAt;
        if (read == null) {
            return NONE;
        }
        net = read;
        aim = new int[10];
        acts.clear();
        return net.places().size();
    }

    /** Reads by a table of what may come next, token by token. */
    static final class Text {
        final String text;
        int fault = 0;
        int faultAt = NONE;
        final Map<String, Integer> placeNames = new HashMap<>();
        final Set<String> names = new HashSet<>();
        final List<Integer> tokens = new ArrayList<>();
        final List<int[]> takes = new ArrayList<>();
        final List<int[]> gives = new ArrayList<>();

        Text(String text) {
            this.text = text;
        }

        State read() {
            // \z, not $: that would take a last byte 13 or 133 for an end of line.
            java.util.regex.Matcher m = java.util.regex.Pattern
                    .compile("[ \\n]*(?:([a-z]+)|([0-9]+)([a-z]?)|(;)|(\\z)|([\\x00-\\xff]))", java.util.regex.Pattern.DOTALL)
                    .matcher(text);
            String expect = "line";
            String line = "";
            int sortAt = 0;
            boolean taking = false;
            int many = 1;
            int at = 0;
            while (true) {
                m.region(at, text.length());
                if (!m.lookingAt()) {
                    throw new IllegalStateException("the model can't read");
                }
                String word = m.group(1);
                String digits = m.group(2);
                int start = word != null ? m.start(1) : digits != null ? m.start(2)
                        : m.group(4) != null ? m.start(4) : m.group(6) != null ? m.start(6) : text.length();
                boolean close = m.group(4) != null;
                boolean end = m.group(5) != null;
                if (word != null && word.length() > 6 || digits != null && (digits.length() > 3 || !m.group(3).isEmpty())
                        || m.group(6) != null) {
                    return bad(1, start);
                }
                at = m.end();
                boolean reserved = word != null && Arrays.asList("place", "step", "takes", "gives").contains(word);
                switch (expect) {
                    case "line":
                        if (end) {
                            return build();
                        }
                        if (!"place".equals(word) && !"step".equals(word)) {
                            return bad(2, start);
                        }
                        line = word;
                        if (line.equals("place") ? tokens.size() == 10 : takes.size() == 8) {
                            return bad(5, start);
                        }
                        expect = "newname";
                        break;
                    case "newname":
                        if (word == null || reserved) {
                            return bad(2, start);
                        }
                        if (!names.add(word)) {
                            return bad(3, start);
                        }
                        if (line.equals("place")) {
                            placeNames.put(word, tokens.size());
                            tokens.add(0);
                            expect = "tokens";
                        } else {
                            takes.add(new int[10]);
                            gives.add(new int[10]);
                            expect = "arc";
                        }
                        break;
                    case "tokens":
                        if (digits != null) {
                            if (Integer.parseInt(digits) > 99) {
                                return bad(4, start);
                            }
                            tokens.set(tokens.size() - 1, Integer.parseInt(digits));
                            expect = "close";
                            break;
                        }
                        if (!close) {
                            return bad(2, start);
                        }
                        expect = "line";
                        break;
                    case "close":
                        if (!close) {
                            return bad(2, start);
                        }
                        expect = "line";
                        break;
                    case "arc":
                        if (close) {
                            expect = "line";
                            break;
                        }
                        if (!"takes".equals(word) && !"gives".equals(word)) {
                            return bad(2, start);
                        }
                        taking = word.equals("takes");
                        sortAt = start;
                        many = 1;
                        expect = "many";
                        break;
                    case "many":
                        if (digits != null) {
                            many = Integer.parseInt(digits);
                            if (many < 1 || many > 3) {
                                return bad(4, start);
                            }
                            expect = "placename";
                            break;
                        }
                        // falls through: without a number the name stands here
                    case "placename":
                        if (word == null || reserved) {
                            return bad(2, start);
                        }
                        Integer p = placeNames.get(word);
                        if (p == null) {
                            return bad(3, start);
                        }
                        int[] row = (taking ? takes : gives).get(takes.size() - 1);
                        row[p] += many;
                        if (row[p] > 3) {
                            return bad(4, sortAt);
                        }
                        expect = "arc";
                        break;
                    default:
                        throw new IllegalStateException(expect);
                }
            }
        }

        State bad(int number, int at) {
            fault = number;
            faultAt = at;
            return null;
        }

        State build() {
            State s = new State();
            s.tokens = new int[tokens.size()];
            s.place = new boolean[tokens.size()];
            for (int i = 0; i < tokens.size(); i++) {
                s.tokens[i] = tokens.get(i);
                s.place[i] = true;
            }
            s.takes = takes.toArray(new int[0][]);
            s.gives = gives.toArray(new int[0][]);
            s.step = new boolean[takes.size()];
            Arrays.fill(s.step, true);
            return s;
        }
    }

    int fault(int what) {
        return what == 0 ? fault : what == 1 ? faultAt : NONE;
    }

    // ---- the net

    static int bits(List<Integer> list) {
        int bits = 0;
        for (int i : list) {
            bits |= 1 << i;
        }
        return bits;
    }

    int about(int what) {
        switch (what) {
            case 0: return net.places().size();
            case 1: return net.steps().size();
            case 2: return bits(net.places());
            case 3: return bits(net.steps());
            case 4: {
                int all = 0;
                for (int p : net.places()) {
                    all += net.tokens[p];
                }
                return all;
            }
            case 5: return acts.size();
            case 6: return tape.size();
            case 7: return rank();
            default: return NONE;
        }
    }

    int change(int s, int p) {
        return net.gives[s][p] - net.takes[s][p];
    }

    int rank() {
        List<BigInteger[]> rows = new ArrayList<>();
        for (int p : net.places()) {
            BigInteger[] row = new BigInteger[net.step.length];
            for (int s = 0; s < row.length; s++) {
                row[s] = BigInteger.valueOf(net.step[s] ? change(s, p) : 0);
            }
            rows.add(row);
        }
        int rank = 0;
        for (int c = 0; c < net.step.length; c++) {
            for (int r = rank; r < rows.size(); r++) {
                if (rows.get(r)[c].signum() == 0) {
                    continue;
                }
                BigInteger[] top = rows.get(r);
                rows.set(r, rows.get(rank));
                rows.set(rank, top);
                for (int k = rank + 1; k < rows.size(); k++) {
                    BigInteger f = rows.get(k)[c];
                    for (int j = 0; j < top.length; j++) {
                        rows.get(k)[j] = rows.get(k)[j].multiply(top[c]).subtract(top[j].multiply(f));
                    }
                    rows.get(k)[c] = BigInteger.ZERO;
                }
                rank++;
                break;
            }
        }
        return rank;
    }

    int arc(int step, int place, int what) {
        if (!net.hasStep(step) || !net.hasPlace(place) || what < 0 || what > 2) {
            return Integer.MIN_VALUE;
        }
        return what == 0 ? net.takes[step][place] : what == 1 ? net.gives[step][place] : change(step, place);
    }

    int tokens(int place) {
        return net.hasPlace(place) ? net.tokens[place] : NONE;
    }

    int kind(int what) {
        if (what < 0 || what > 2) {
            return NONE;
        }
        boolean yes = true;
        if (what == 0) {
            for (int s : net.steps()) {
                int from = 0;
                int to = 0;
                for (int p : net.places()) {
                    from += net.takes[s][p] > 0 ? 1 : 0;
                    to += net.gives[s][p] > 0 ? 1 : 0;
                    yes &= net.takes[s][p] <= 1 && net.gives[s][p] <= 1;
                }
                yes &= from == 1 && to == 1;
            }
        } else if (what == 1) {
            for (int p : net.places()) {
                int takers = 0;
                int givers = 0;
                for (int s : net.steps()) {
                    takers += net.takes[s][p] > 0 ? 1 : 0;
                    givers += net.gives[s][p] > 0 ? 1 : 0;
                    yes &= net.takes[s][p] <= 1 && net.gives[s][p] <= 1;
                }
                yes &= takers == 1 && givers == 1;
            }
        } else {
            for (int s : net.steps()) {
                for (int t : net.steps()) {
                    boolean both = false;
                    boolean alike = true;
                    for (int p : net.places()) {
                        both |= net.takes[s][p] > 0 && net.takes[t][p] > 0;
                        alike &= net.takes[s][p] == net.takes[t][p];
                    }
                    yes &= !both || alike;
                }
            }
        }
        return yes ? 1 : 0;
    }

    // ---- acts

    void act() {
        acts.addLast(net.copy());
        if (acts.size() > 12) {
            acts.removeFirst();
        }
    }

    int fire(int step) {
        if (!net.hasStep(step) || !net.can(step, net.tokens)) {
            return NONE;
        }
        act();
        net.tokens = net.after(step, net.tokens);
        return can();
    }

    int set(int place, int n) {
        if (!net.hasPlace(place) || n < 0 || n > 999 || net.tokens[place] == n) {
            return NONE;
        }
        act();
        int had = net.tokens[place];
        net.tokens[place] = n;
        return had;
    }

    int run(int seed, int n) {
        if (n < 1 || n > 200 || net.steps().isEmpty()) {
            return NONE;
        }
        act();
        int done = 0;
        while (done < n) {
            List<Integer> ways = new ArrayList<>();
            for (int s : net.steps()) {
                if (net.can(s, net.tokens)) {
                    ways.add(s);
                }
            }
            if (ways.isEmpty()) {
                break;
            }
            seed = seed * 1103515245 + 12345;
            net.tokens = net.after(ways.get((seed >>> 16) % ways.size()), net.tokens);
            done++;
        }
        return done;
    }

    int can() {
        return net.canBits(net.tokens);
    }

    boolean undo() {
        if (acts.isEmpty()) {
            return false;
        }
        net = acts.removeLast();
        return true;
    }

    // ---- SUMS, ROWS: by Farkas' way, all mixtures kept, the least picked at the end of each turn

    List<BigInteger[]> weights(int what) {
        List<Integer> units = what == 0 ? net.places() : net.steps();
        List<Integer> others = what == 0 ? net.steps() : net.places();
        List<BigInteger[]> rows = new ArrayList<>();
        for (int u : units) {
            BigInteger[] row = new BigInteger[10];
            Arrays.fill(row, BigInteger.ZERO);
            row[u] = BigInteger.ONE;
            rows.add(row);
        }
        for (int o : others) {
            List<BigInteger[]> next = new ArrayList<>();
            for (BigInteger[] a : rows) {
                BigInteger ca = turned(what, a, o);
                if (ca.signum() == 0) {
                    next.add(a);
                }
                for (BigInteger[] b : rows) {
                    BigInteger cb = turned(what, b, o);
                    if (ca.signum() > 0 && cb.signum() < 0) {
                        BigInteger[] mix = new BigInteger[10];
                        BigInteger common = BigInteger.ZERO;
                        for (int i = 0; i < 10; i++) {
                            mix[i] = a[i].multiply(cb.negate()).add(b[i].multiply(ca));
                            common = common.gcd(mix[i]);
                        }
                        for (int i = 0; i < 10; i++) {
                            mix[i] = mix[i].divide(common);
                        }
                        next.add(mix);
                    }
                }
            }
            rows = least(next);
        }
        rows.sort((a, b) -> supportOf(a) - supportOf(b));
        return rows;
    }

    BigInteger turned(int what, BigInteger[] row, int other) {
        BigInteger all = BigInteger.ZERO;
        for (int i = 0; i < 10; i++) {
            if (row[i].signum() != 0) {
                int c = what == 0 ? change(other, i) : change(i, other);
                all = all.add(row[i].multiply(BigInteger.valueOf(c)));
            }
        }
        return all;
    }

    static List<BigInteger[]> least(List<BigInteger[]> rows) {
        Map<Integer, BigInteger[]> bySupport = new LinkedHashMap<>();
        for (BigInteger[] row : rows) {
            bySupport.put(supportOf(row), row);
        }
        List<BigInteger[]> kept = new ArrayList<>();
        for (Map.Entry<Integer, BigInteger[]> e : bySupport.entrySet()) {
            boolean ok = true;
            for (int other : bySupport.keySet()) {
                ok &= other == e.getKey() || (other & ~e.getKey()) != 0;
            }
            if (ok) {
                kept.add(e.getValue());
            }
        }
        return kept;
    }

    static int supportOf(BigInteger[] row) {
        int bits = 0;
        for (int i = 0; i < row.length; i++) {
            if (row[i].signum() != 0) {
                bits |= 1 << i;
            }
        }
        return bits;
    }

    int sums(int what) {
        return what == 0 || what == 1 ? weights(what).size() : NONE;
    }

    int sum(int what, int k, int i) {
        if (what != 0 && what != 1 || (what == 0 ? !net.hasPlace(i) : !net.hasStep(i))) {
            return NONE;
        }
        List<BigInteger[]> all = weights(what);
        return k >= 0 && k < all.size() ? all.get(k)[i].intValueExact() : NONE;
    }

    int support(int what, int k) {
        if (what != 0 && what != 1 || k < 0 || k >= weights(what).size()) {
            throw new NoSuchElementException();
        }
        return supportOf(weights(what).get(k));
    }

    int covered(int what) {
        if (what != 0 && what != 1) {
            return NONE;
        }
        int bits = 0;
        for (BigInteger[] row : weights(what)) {
            bits |= supportOf(row);
        }
        return bits;
    }

    long value(int k) {
        List<BigInteger[]> all = weights(0);
        if (k < 0 || k >= all.size()) {
            return NONE;
        }
        long v = 0;
        for (int p : net.places()) {
            v += all.get(k)[p].longValueExact() * net.tokens[p];
        }
        return v;
    }

    long bound(int place) {
        if (!net.hasPlace(place)) {
            return NONE;
        }
        long least = NONE;
        List<BigInteger[]> all = weights(0);
        for (int k = 0; k < all.size(); k++) {
            long share = all.get(k)[place].longValueExact();
            if (share > 0 && (least == NONE || value(k) / share < least)) {
                least = value(k) / share;
            }
        }
        return least;
    }

    // ---- SIPHONS, TRAPS

    boolean closed(int what, int set) {
        if (set == 0 || (set & ~bits(net.places())) != 0) {
            return false;
        }
        for (int s : net.steps()) {
            boolean takes = false;
            boolean gives = false;
            for (int p : net.places()) {
                if ((set >> p & 1) == 1) {
                    takes |= net.takes[s][p] > 0;
                    gives |= net.gives[s][p] > 0;
                }
            }
            if (what == 0 ? gives && !takes : takes && !gives) {
                return false;
            }
        }
        return true;
    }

    List<Integer> leastSets(int what) {
        List<Integer> all = new ArrayList<>();
        for (int set = 1; set < 1024; set++) {
            if (closed(what, set)) {
                all.add(set);
            }
        }
        List<Integer> least = new ArrayList<>();
        for (int a : all) {
            boolean ok = true;
            for (int b : all) {
                ok &= b == a || (b & ~a) != 0;
            }
            if (ok) {
                least.add(a);
            }
        }
        return least;
    }

    int siphons(int what) {
        return what == 0 || what == 1 ? leastSets(what).size() : NONE;
    }

    int siphon(int what, int k) {
        if (what != 0 && what != 1 || k < 0 || k >= leastSets(what).size()) {
            throw new NoSuchElementException();
        }
        return leastSets(what).get(k);
    }

    int isSiphon(int what, int places) {
        return what != 0 && what != 1 ? NONE : closed(what, places) ? 1 : 0;
    }

    int greatest(int what, int places) {
        if (what != 0 && what != 1) {
            return NONE;
        }
        int all = 0;
        for (int set = 1; set < 1024; set++) {
            if ((set & ~places) == 0 && closed(what, set)) {
                all |= set;
            }
        }
        return all;
    }

    int unguarded(int k) {
        List<Integer> open = new ArrayList<>();
        for (int set : leastSets(0)) {
            int trap = greatest(1, set);
            boolean marked = false;
            for (int p : net.places()) {
                marked |= (trap >> p & 1) == 1 && net.tokens[p] > 0;
            }
            if (!marked) {
                open.add(set);
            }
        }
        return k == NONE ? open.size() : k >= 0 && k < open.size() ? open.get(k) : NONE;
    }

    int lost() {
        int empty = 0;
        for (int p : net.places()) {
            if (net.tokens[p] == 0) {
                empty |= 1 << p;
            }
        }
        int set = greatest(0, empty);
        int bits = 0;
        for (int s : net.steps()) {
            for (int p : net.places()) {
                if ((set >> p & 1) == 1 && net.takes[s][p] > 0) {
                    bits |= 1 << s;
                }
            }
        }
        return bits;
    }

    // ---- AIM

    int aim(int place, int n) {
        if (!net.hasPlace(place) || n < 0 || n > 999) {
            return NONE;
        }
        int was = aim[place];
        aim[place] = n;
        return was;
    }

    /** Every row of counts with so many in all, by numbers; no thought, only trying. */
    int[] countsOf(int all, int from, int[] counts, int[] marking) {
        List<Integer> steps = net.steps();
        if (from == steps.size()) {
            return all == 0 && isAim(marking) ? counts.clone() : null;
        }
        int s = steps.get(from);
        for (int n = from == steps.size() - 1 ? all : 0; n <= all; n++) {
            int[] next = marking.clone();
            for (int p : net.places()) {
                next[p] += n * change(s, p);
            }
            counts[s] = n;
            int[] found = countsOf(all - n, from + 1, counts, next);
            if (found != null) {
                return found;
            }
        }
        counts[s] = 0;
        return null;
    }

    int[] counts() {
        for (int all = 0; all <= 12; all++) {
            int[] found = countsOf(all, 0, new int[8], net.tokens);
            if (found != null) {
                return found;
            }
        }
        return null;
    }

    boolean isAim(int[] marking) {
        for (int p : net.places()) {
            if (marking[p] != aim[p]) {
                return false;
            }
        }
        return true;
    }

    int counts(int step) {
        int[] found = counts();
        if (found == null) {
            return NONE;
        }
        if (step == NONE) {
            return Arrays.stream(found).sum();
        }
        return net.hasStep(step) ? found[step] : NONE;
    }

    List<Integer> line(int[] left, int[] marking, Set<String> tried) {
        if (Arrays.stream(left).sum() == 0) {
            return new ArrayList<>();
        }
        if (!tried.add(Arrays.toString(left))) {
            return null;
        }
        for (int s : net.steps()) {
            if (left[s] > 0 && net.can(s, marking)) {
                int[] rest = left.clone();
                rest[s]--;
                List<Integer> tail = line(rest, net.after(s, marking), tried);
                if (tail != null) {
                    tail.add(0, s);
                    return tail;
                }
            }
        }
        return null;
    }

    int order(int i) {
        int[] found = counts();
        if (found == null) {
            return NONE;
        }
        List<Integer> line = line(found, net.tokens, new HashSet<>());
        if (line == null) {
            return -2;
        }
        return i >= 0 && i < line.size() ? line.get(i) : NONE;
    }

    // ---- the GRAPH

    static final class Graph {
        final List<int[]> markings = new ArrayList<>();
        final List<Integer> from = new ArrayList<>();
        final List<Integer> by = new ArrayList<>();
        final List<Integer> can = new ArrayList<>();
        final List<List<Integer>> next = new ArrayList<>();
        boolean full = false;
        BitSet[] reach;

        Graph(State net) {
            Map<String, Integer> index = new HashMap<>();
            index.put(Arrays.toString(net.tokens), 0);
            markings.add(net.tokens.clone());
            from.add(NONE);
            by.add(NONE);
            for (int i = 0; i < markings.size(); i++) {
                can.add(net.canBits(markings.get(i)));
                List<Integer> ways = new ArrayList<>();
                for (int s : net.steps()) {
                    if (!net.can(s, markings.get(i))) {
                        continue;
                    }
                    int[] m = net.after(s, markings.get(i));
                    Integer known = index.get(Arrays.toString(m));
                    if (known != null) {
                        ways.add(known);
                    } else if (markings.size() == 300) {
                        full = true;
                    } else {
                        ways.add(markings.size());
                        index.put(Arrays.toString(m), markings.size());
                        markings.add(m);
                        from.add(i);
                        by.add(s);
                    }
                }
                next.add(ways);
            }
        }

        /** To which markings one comes from each, itself too. */
        BitSet[] reach() {
            if (reach == null) {
                int n = markings.size();
                reach = new BitSet[n];
                for (int i = 0; i < n; i++) {
                    reach[i] = new BitSet();
                    reach[i].set(i);
                    for (int k : next.get(i)) {
                        reach[i].set(k);
                    }
                }
                for (int k = 0; k < n; k++) {
                    for (int i = 0; i < n; i++) {
                        if (reach[i].get(k)) {
                            reach[i].or(reach[k]);
                        }
                    }
                }
            }
            return reach;
        }

        boolean home(int i) {
            for (BitSet r : reach()) {
                if (!r.get(i)) {
                    return false;
                }
            }
            return true;
        }

        boolean live(int step) {
            for (BitSet r : reach()) {
                boolean some = false;
                for (int k = 0; k < markings.size(); k++) {
                    some |= r.get(k) && (can.get(k) >> step & 1) == 1;
                }
                if (!some) {
                    return false;
                }
            }
            return true;
        }

        int dead() {
            int n = 0;
            for (int c : can) {
                n += c == 0 ? 1 : 0;
            }
            return n;
        }
    }

    int reaches() {
        Graph g = new Graph(net);
        int[] far = new int[g.markings.size()];
        Arrays.fill(far, Integer.MAX_VALUE);
        far[0] = 0;
        // Lengths are mended until none can be: no trust in the order of numbers.
        for (boolean changed = true; changed;) {
            changed = false;
            for (int i = 0; i < far.length; i++) {
                for (int k : g.next.get(i)) {
                    if (far[i] != Integer.MAX_VALUE && far[i] + 1 < far[k]) {
                        far[k] = far[i] + 1;
                        changed = true;
                    }
                }
            }
        }
        for (int i = 0; i < far.length; i++) {
            if (isAim(g.markings.get(i))) {
                return far[i];
            }
        }
        return g.full ? -2 : NONE;
    }

    int graph(int what) {
        Graph g = new Graph(net);
        switch (what) {
            case 0: return g.markings.size();
            case 1: return g.full ? 1 : 0;
            case 2: return g.dead();
            case 3: return g.can.indexOf(0);
            case 4: {
                int n = 0;
                for (int i = 0; i < g.markings.size(); i++) {
                    n += g.home(i) ? 1 : 0;
                }
                return n;
            }
            default: return NONE;
        }
    }

    int marking(int i, int place) {
        Graph g = new Graph(net);
        return i >= 0 && i < g.markings.size() && net.hasPlace(place) ? g.markings.get(i)[place] : NONE;
    }

    int came(int i, int what) {
        Graph g = new Graph(net);
        if (i < 0 || i >= g.markings.size()) {
            return NONE;
        }
        switch (what) {
            case 0: return g.from.get(i);
            case 1: return g.by.get(i);
            case 2: return g.can.get(i);
            case 3: return g.home(i) ? 1 : 0;
            default: return NONE;
        }
    }

    int live(int step) {
        return net.hasStep(step) ? new Graph(net).live(step) ? 1 : 0 : NONE;
    }

    int most(int place) {
        if (!net.hasPlace(place)) {
            return NONE;
        }
        int most = 0;
        for (int[] m : new Graph(net).markings) {
            most = Math.max(most, m[place]);
        }
        return most;
    }

    // ---- REDUCED

    /** The rules that are done, {number, place, step} each; r is changed. */
    static List<int[]> reduce(State r) {
        List<int[]> done = new ArrayList<>();
        while (true) {
            int[] one = firstRule(r);
            if (one == null) {
                return done;
            }
            if (one[1] != NONE) {
                r.place[one[1]] = false;
                r.tokens[one[1]] = 0;
            }
            if (one[2] != NONE) {
                r.step[one[2]] = false;
            }
            done.add(one);
        }
    }

    static int[] firstRule(State r) {
        for (int number = 1; number <= 6; number++) {
            for (int a = 0; a < 10; a++) {
                for (int b = 0; b < 10; b++) {
                    int[] one = tryRule(r, number, a, b);
                    if (one != null) {
                        return one;
                    }
                }
            }
        }
        return null;
    }

    static int[] tryRule(State r, int number, int a, int b) {
        switch (number) {
            case 1:
                if (a < b && r.hasPlace(a) && r.hasPlace(b) && r.tokens[a] <= r.tokens[b]) {
                    for (int s : r.steps()) {
                        if (r.takes[s][a] != r.takes[s][b] || r.gives[s][a] != r.gives[s][b]) {
                            return null;
                        }
                    }
                    return new int[] {1, b, NONE};
                }
                return null;
            case 2:
                if (a < b && r.hasStep(a) && r.hasStep(b)) {
                    for (int p : r.places()) {
                        if (r.takes[a][p] != r.takes[b][p] || r.gives[a][p] != r.gives[b][p]) {
                            return null;
                        }
                    }
                    return new int[] {2, NONE, b};
                }
                return null;
            case 3:
                if (b == 0 && r.hasPlace(a)) {
                    for (int s : r.steps()) {
                        if (r.takes[s][a] != r.gives[s][a] || r.tokens[a] < r.takes[s][a]) {
                            return null;
                        }
                    }
                    return new int[] {3, a, NONE};
                }
                return null;
            case 4:
                if (b == 0 && r.hasStep(a) && r.steps().size() > 1) {
                    for (int p : r.places()) {
                        if (r.takes[a][p] != r.gives[a][p]) {
                            return null;
                        }
                    }
                    return new int[] {4, NONE, a};
                }
                return null;
            case 5:
                return b == 0 && r.hasPlace(a) ? tryFive(r, a) : null;
            default:
                return b == 0 && r.hasStep(a) ? trySix(r, a) : null;
        }
    }

    static int[] tryFive(State r, int p) {
        List<Integer> givers = new ArrayList<>();
        List<Integer> takers = new ArrayList<>();
        for (int s : r.steps()) {
            if (r.gives[s][p] > 0) {
                givers.add(s);
            }
            if (r.takes[s][p] > 0) {
                takers.add(s);
            }
        }
        if (r.tokens[p] != 0 || givers.size() != 1 || takers.size() != 1 || givers.equals(takers)) {
            return null;
        }
        int s = givers.get(0);
        int t = takers.get(0);
        if (r.gives[s][p] != 1 || r.takes[t][p] != 1) {
            return null;
        }
        for (int q : r.places()) {
            if (q != p && (r.takes[t][q] > 0 || r.gives[s][q] + r.gives[t][q] > 3)) {
                return null;
            }
        }
        for (int q : r.places()) {
            if (q != p) {
                r.gives[s][q] += r.gives[t][q];
            }
        }
        return new int[] {5, p, t};
    }

    static int[] trySix(State r, int s) {
        int p = NONE;
        int q = NONE;
        int taken = 0;
        int given = 0;
        for (int x : r.places()) {
            taken += r.takes[s][x];
            given += r.gives[s][x];
            p = r.takes[s][x] > 0 ? x : p;
            q = r.gives[s][x] > 0 ? x : q;
        }
        if (taken != 1 || given != 1 || p == q || r.tokens[p] + r.tokens[q] > 999) {
            return null;
        }
        for (int u : r.steps()) {
            if (u != s && (r.takes[u][p] > 0 || r.gives[u][p] + r.gives[u][q] > 3)) {
                return null;
            }
        }
        r.tokens[q] += r.tokens[p];
        for (int u : r.steps()) {
            r.gives[u][q] += r.gives[u][p];
        }
        return new int[] {6, p, s};
    }

    int reduce() {
        return reduce(net.copy()).size();
    }

    int rule(int i, int what) {
        List<int[]> done = reduce(net.copy());
        return i >= 0 && i < done.size() && what >= 0 && what <= 2 ? done.get(i)[what] : NONE;
    }

    int reduced(int what) {
        State r = net.copy();
        reduce(r);
        Graph g = new Graph(r);
        switch (what) {
            case 0: return bits(r.places());
            case 1: return bits(r.steps());
            case 2: return g.markings.size();
            case 3: return g.full ? 1 : 0;
            case 4: {
                int bits = 0;
                for (int s : r.steps()) {
                    bits |= g.live(s) ? 1 << s : 0;
                }
                return bits;
            }
            case 5: return g.dead();
            default: return NONE;
        }
    }

    int become() {
        State r = net.copy();
        int done = reduce(r).size();
        if (done == 0) {
            return NONE;
        }
        act();
        net = r;
        return done;
    }
}
