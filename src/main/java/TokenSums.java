import java.util.Arrays;
import java.util.NoSuchElementException;

/** A weigher of places and steps; the document ../shared/DOC.md tells what each call promises. */
public final class TokenSums {
    public static final int NONE = -1;

    private static final int NO_ORDER = -2;
    private static final int NOT_SEEN_BUT_FULL = -2;

    private static final int MOST_PLACES = 10;
    private static final int MOST_STEPS = 8;
    private static final int MOST_ARCS = MOST_PLACES * MOST_STEPS;
    private static final int MOST_TOKENS = 999;
    private static final int MOST_TOLD_TOKENS = 99;
    private static final int MOST_ON_ARC = 3;

    private static final int MOST_BYTES = 900;
    private static final int FED_BYTES = 20;
    private static final int MOST_LETTERS = 6;
    private static final int MOST_DIGITS = 3;

    private static final int MOST_ACTS = 12;
    private static final int MOST_IN_RUN = 200;
    private static final int MOST_COUNTED = 12;
    // 12 steps shared out among 8 leave at most 3*3*3*3*2*2*2*2 ways to have done some of them.
    private static final int MOST_PARTS = 1296;

    // No family of sets over 10 things, none within another, is larger than 10 over 5 = 252.
    private static final int MOST_LEAST = 256;
    private static final int ALL_SETS = 1 << MOST_PLACES;

    private static final int MOST_MARKINGS = 300;
    private static final int TABLE_SIZE = 1024;
    private static final int MOST_RULES = MOST_PLACES + MOST_STEPS;

    private final Reader reader = new Reader();
    private final Net told = new Net();
    private final Net now = new Net();
    private final Past past = new Past();
    private final Weights placeWeights = new Weights(false);
    private final Weights stepWeights = new Weights(true);
    private final PlaceSets siphonSets = new PlaceSets(false);
    private final PlaceSets trapSets = new PlaceSets(true);
    private final Seeker seeker = new Seeker();
    private final Graph present = new Graph();
    private final Reducer reducer = new Reducer();
    private final Graph smaller = new Graph();
    private int stamp = 0;

    public TokenSums() {
    }

    // ---- the text

    public int feed(int a, int b, int c, int d, int e) {
        if (reader.length + FED_BYTES > MOST_BYTES) {
            return NONE;
        }
        reader.append(a);
        reader.append(b);
        reader.append(c);
        reader.append(d);
        reader.append(e);
        return reader.length;
    }

    public int end(int n) {
        if (n < 0 || n > reader.length) {
            return NONE;
        }
        reader.length = n;
        return n;
    }

    public int net() {
        boolean good = reader.readInto(told);
        reader.length = 0;
        if (!good) {
            return NONE;
        }
        now.copyFrom(told);
        newForm();
        seeker.forgetAims();
        past.forget();
        return Integer.bitCount(now.places);
    }

    public int fault(int what) {
        switch (what) {
            case 0:
                return reader.fault;
            case 1:
                return reader.faultAt;
            default:
                return NONE;
        }
    }

    // ---- the net and its marking

    public int about(int what) {
        switch (what) {
            case 0:
                return Integer.bitCount(now.places);
            case 1:
                return Integer.bitCount(now.steps);
            case 2:
                return now.places;
            case 3:
                return now.steps;
            case 4:
                return now.allTokens();
            case 5:
                return past.kept;
            case 6:
                return reader.length;
            case 7:
                return placeWeights.rankOf(now);
            default:
                return NONE;
        }
    }

    public int arc(int step, int place, int what) {
        if (!now.hasStep(step) || !now.hasPlace(place)) {
            return Integer.MIN_VALUE;
        }
        switch (what) {
            case 0:
                return now.takes[step * MOST_PLACES + place];
            case 1:
                return now.gives[step * MOST_PLACES + place];
            case 2:
                return now.change(step, place);
            default:
                return Integer.MIN_VALUE;
        }
    }

    public int tokens(int place) {
        return now.hasPlace(place) ? now.held[place] : NONE;
    }

    public int kind(int what) {
        switch (what) {
            case 0:
                return oneIf(now.eachStepMovesOne());
            case 1:
                return oneIf(now.eachPlaceIsPassed());
            case 2:
                return oneIf(now.rivalsTakeAlike());
            default:
                return NONE;
        }
    }

    // ---- acts

    public int fire(int step) {
        if (!now.allows(step, now.held, 0)) {
            return NONE;
        }
        past.keep(now);
        now.move(step, now.held, 0, 0);
        newState();
        return now.allowed();
    }

    public int set(int place, int n) {
        if (!now.hasPlace(place) || !isTokens(n) || now.held[place] == n) {
            return NONE;
        }
        past.keep(now);
        int had = now.held[place];
        now.held[place] = n;
        newState();
        return had;
    }

    public int run(int seed, int n) {
        if (n < 1 || n > MOST_IN_RUN || now.steps == 0) {
            return NONE;
        }
        past.keep(now);
        int drawn = seed;
        int done = 0;
        for (int i = 0; i < n; i++) {
            int bits = now.allowed();
            int ways = Integer.bitCount(bits);
            if (ways == 0) {
                break;
            }
            drawn = drawn * 1103515245 + 12345;
            now.move(bitAt(bits, (drawn >>> 16) % ways), now.held, 0, 0);
            done++;
        }
        newState();
        return done;
    }

    public int can() {
        return now.allowed();
    }

    public boolean undo() {
        return past.restore(now);
    }

    // ---- SUMS, ROWS

    public int sums(int what) {
        return isOneOfTwo(what) ? weights(what).count : NONE;
    }

    public int sum(int what, int k, int i) {
        if (!isOneOfTwo(what)) {
            return NONE;
        }
        Weights w = weights(what);
        boolean there = what == 0 ? now.hasPlace(i) : now.hasStep(i);
        return there && k >= 0 && k < w.count ? w.numbers[k * MOST_PLACES + i] : NONE;
    }

    public int support(int what, int k) throws NoSuchElementException {
        if (!isOneOfTwo(what)) {
            throw new NoSuchElementException("what is 0 or 1");
        }
        Weights w = weights(what);
        if (k < 0 || k >= w.count) {
            throw new NoSuchElementException("there is no such sum or row");
        }
        return w.supports[k];
    }

    public int covered(int what) {
        return isOneOfTwo(what) ? weights(what).covering : NONE;
    }

    public long value(int k) {
        Weights w = weights(0);
        return k >= 0 && k < w.count ? w.weigh(k, now) : NONE;
    }

    public long bound(int place) {
        return now.hasPlace(place) ? weights(0).leastBound(place, now) : NONE;
    }

    // ---- SIPHONS, TRAPS

    public int siphons(int what) {
        return isOneOfTwo(what) ? leastSets(what).count : NONE;
    }

    public int siphon(int what, int k) throws NoSuchElementException {
        if (!isOneOfTwo(what)) {
            throw new NoSuchElementException("what is 0 or 1");
        }
        PlaceSets sets = leastSets(what);
        if (k < 0 || k >= sets.count) {
            throw new NoSuchElementException("there is no such siphon or trap");
        }
        return sets.least[k];
    }

    public int isSiphon(int what, int places) {
        if (!isOneOfTwo(what)) {
            return NONE;
        }
        if (places == 0 || (places & ~now.places) != 0) {
            return 0;
        }
        return oneIf(placeSets(what).isClosed(places));
    }

    public int greatest(int what, int places) {
        return isOneOfTwo(what) ? placeSets(what).largestWithin(places & now.places) : NONE;
    }

    public int unguarded(int k) {
        PlaceSets sets = leastSets(0);
        PlaceSets traps = placeSets(1);
        int marked = now.markedPlaces();
        int found = 0;
        for (int i = 0; i < sets.count; i++) {
            if ((traps.largestWithin(sets.least[i]) & marked) != 0) {
                continue;
            }
            if (found == k) {
                return sets.least[i];
            }
            found++;
        }
        return k == NONE ? found : NONE;
    }

    public int lost() {
        int empty = now.places & ~now.markedPlaces();
        int never = placeSets(0).largestWithin(empty);
        int bits = 0;
        for (int s = 0; s < now.toldSteps; s++) {
            if ((now.takenFrom(s) & never) != 0) {
                bits |= 1 << s;
            }
        }
        return bits;
    }

    // ---- AIM

    public int aim(int place, int n) {
        if (!now.hasPlace(place) || !isTokens(n)) {
            return NONE;
        }
        return seeker.putAim(place, n);
    }

    public int counts(int step) {
        seeker.findCounts(now);
        if (step == NONE) {
            return seeker.total;
        }
        return seeker.total != NONE && now.hasStep(step) ? seeker.best[step] : NONE;
    }

    public int order(int i) {
        seeker.findCounts(now);
        if (seeker.total == NONE) {
            return NONE;
        }
        if (!seeker.findOrder(now)) {
            return NO_ORDER;
        }
        return i >= 0 && i < seeker.total ? seeker.line[i] : NONE;
    }

    public int reaches() {
        Graph g = presentGraph();
        for (int i = 0; i < g.size; i++) {
            if (seeker.isAimed(now.places, g.markings, i * MOST_PLACES)) {
                return g.depthOf(i);
            }
        }
        return g.full ? NOT_SEEN_BUT_FULL : NONE;
    }

    // ---- the GRAPH

    public int graph(int what) {
        Graph g = presentGraph();
        switch (what) {
            case 0:
                return g.size;
            case 1:
                return oneIf(g.full);
            case 2:
                return g.deadOnes();
            case 3:
                return g.firstDead();
            case 4:
                g.findHomes();
                return g.homes;
            default:
                return NONE;
        }
    }

    public int marking(int i, int place) {
        Graph g = presentGraph();
        boolean there = now.hasPlace(place) && i >= 0 && i < g.size;
        return there ? g.markings[i * MOST_PLACES + place] : NONE;
    }

    public int came(int i, int what) {
        Graph g = presentGraph();
        if (i < 0 || i >= g.size) {
            return NONE;
        }
        switch (what) {
            case 0:
                return g.from[i];
            case 1:
                return g.by[i];
            case 2:
                return g.ways[i];
            case 3:
                g.findHomes();
                return g.home[i];
            default:
                return NONE;
        }
    }

    public int live(int step) {
        if (!now.hasStep(step)) {
            return NONE;
        }
        return presentGraph().liveOnes(now) >> step & 1;
    }

    public int most(int place) {
        return now.hasPlace(place) ? presentGraph().mostIn(place) : NONE;
    }

    // ---- REDUCED

    public int reduce() {
        reducer.makeSmall(now);
        return reducer.count;
    }

    public int rule(int i, int what) {
        reducer.makeSmall(now);
        if (i < 0 || i >= reducer.count) {
            return NONE;
        }
        switch (what) {
            case 0:
                return reducer.numbers[i];
            case 1:
                return reducer.gonePlaces[i];
            case 2:
                return reducer.goneSteps[i];
            default:
                return NONE;
        }
    }

    public int reduced(int what) {
        reducer.makeSmall(now);
        switch (what) {
            case 0:
                return reducer.small.places;
            case 1:
                return reducer.small.steps;
            case 2:
                return smallerGraph().size;
            case 3:
                return oneIf(smallerGraph().full);
            case 4:
                return smallerGraph().liveOnes(reducer.small);
            case 5:
                return smallerGraph().deadOnes();
            default:
                return NONE;
        }
    }

    public int become() {
        reducer.makeSmall(now);
        if (reducer.count == 0) {
            return NONE;
        }
        past.keep(now);
        now.copyFrom(reducer.small);
        newForm();
        return reducer.count;
    }

    // ---- what the calls share

    // Stamps name a form (arcs) and a state (arcs and tokens) for good, so that what was worked
    // out for one is used again, also when undo brings it back.
    private void newState() {
        stamp++;
        now.state = stamp;
    }

    private void newForm() {
        newState();
        now.form = now.state;
    }

    private Weights weights(int what) {
        Weights w = what == 0 ? placeWeights : stepWeights;
        w.findLeast(now);
        return w;
    }

    private PlaceSets placeSets(int what) {
        PlaceSets sets = what == 0 ? siphonSets : trapSets;
        sets.lookAt(now);
        return sets;
    }

    private PlaceSets leastSets(int what) {
        PlaceSets sets = placeSets(what);
        sets.findLeast(now.places);
        return sets;
    }

    private Graph presentGraph() {
        present.grow(now, now.state);
        return present;
    }

    // The reduced net has no stamp of its own: it is told by that of the net it was made from.
    private Graph smallerGraph() {
        smaller.grow(reducer.small, now.state);
        return smaller;
    }

    private static boolean isOneOfTwo(int what) {
        return what == 0 || what == 1;
    }

    private static boolean isTokens(int n) {
        return n >= 0 && n <= MOST_TOKENS;
    }

    private static int oneIf(boolean yes) {
        return yes ? 1 : 0;
    }

    /** The number of the k-th bit that is set, NONE if there is none such. */
    private static int bitAt(int bits, int k) {
        int left = k;
        for (int i = 0; i < MOST_PLACES; i++) {
            if ((bits >> i & 1) == 0) {
                continue;
            }
            if (left == 0) {
                return i;
            }
            left--;
        }
        return NONE;
    }

    private static long commonDivisor(long x, long y) {
        long a = Math.abs(x);
        long b = Math.abs(y);
        // Euclid's way at least halves the numbers in two turns: 128 are enough for any long.
        for (int i = 0; i < 128 && b != 0; i++) {
            long rest = a % b;
            a = b;
            b = rest;
        }
        return a;
    }

    /** Makes row 'to' 0 in a column by means of row 'from', in whole numbers as small as can be. */
    private static void clearColumn(long[] rows, int to, int from, int column, int width) {
        long a = rows[from * width + column];
        long b = rows[to * width + column];
        if (a == 0 || b == 0) {
            return;
        }
        long common = 0;
        for (int i = 0; i < width; i++) {
            long x = rows[to * width + i] * a - rows[from * width + i] * b;
            rows[to * width + i] = x;
            common = common == 1 ? 1 : commonDivisor(common, x);
        }
        // Dividing keeps every number within the minors of the changes: far inside a long.
        if (common > 1) {
            for (int i = 0; i < width; i++) {
                rows[to * width + i] /= common;
            }
        }
    }

    /** Places, steps, arcs and tokens; what is gone has no bit, no arcs and no tokens. */
    private static final class Net {
        private final int[] takes = new int[MOST_ARCS];
        private final int[] gives = new int[MOST_ARCS];
        private final int[] held = new int[MOST_PLACES];
        private int toldPlaces = 0;
        private int toldSteps = 0;
        private int places = 0;
        private int steps = 0;
        private int form = 0;
        private int state = 0;

        private void clear() {
            Arrays.fill(takes, 0);
            Arrays.fill(gives, 0);
            Arrays.fill(held, 0);
            toldPlaces = 0;
            toldSteps = 0;
            places = 0;
            steps = 0;
        }

        private void copyFrom(Net other) {
            System.arraycopy(other.takes, 0, takes, 0, MOST_ARCS);
            System.arraycopy(other.gives, 0, gives, 0, MOST_ARCS);
            System.arraycopy(other.held, 0, held, 0, MOST_PLACES);
            toldPlaces = other.toldPlaces;
            toldSteps = other.toldSteps;
            places = other.places;
            steps = other.steps;
            form = other.form;
            state = other.state;
        }

        private void addPlace(int tokens) {
            if (toldPlaces < MOST_PLACES) {
                held[toldPlaces] = tokens;
                places |= 1 << toldPlaces;
                toldPlaces++;
            }
        }

        private void addStep() {
            if (toldSteps < MOST_STEPS) {
                steps |= 1 << toldSteps;
                toldSteps++;
            }
        }

        private void dropPlace(int place) {
            for (int s = 0; s < MOST_STEPS; s++) {
                takes[s * MOST_PLACES + place] = 0;
                gives[s * MOST_PLACES + place] = 0;
            }
            held[place] = 0;
            places &= ~(1 << place);
        }

        private void dropStep(int step) {
            for (int p = 0; p < MOST_PLACES; p++) {
                takes[step * MOST_PLACES + p] = 0;
                gives[step * MOST_PLACES + p] = 0;
            }
            steps &= ~(1 << step);
        }

        private boolean hasPlace(int place) {
            return place >= 0 && place < MOST_PLACES && (places >> place & 1) == 1;
        }

        private boolean hasStep(int step) {
            return step >= 0 && step < MOST_STEPS && (steps >> step & 1) == 1;
        }

        private int change(int step, int place) {
            int arc = step * MOST_PLACES + place;
            return gives[arc] - takes[arc];
        }

        private boolean changesNothing(int step) {
            for (int p = 0; p < toldPlaces; p++) {
                if (change(step, p) != 0) {
                    return false;
                }
            }
            return true;
        }

        private boolean changeAlike(int s, int t) {
            for (int p = 0; p < toldPlaces; p++) {
                if (change(s, p) != change(t, p)) {
                    return false;
                }
            }
            return true;
        }

        private int allTokens() {
            int all = 0;
            for (int p = 0; p < toldPlaces; p++) {
                all += held[p];
            }
            return all;
        }

        private int markedPlaces() {
            int bits = 0;
            for (int p = 0; p < toldPlaces; p++) {
                if (held[p] > 0) {
                    bits |= 1 << p;
                }
            }
            return bits;
        }

        private int takenFrom(int step) {
            return placesWith(takes, step);
        }

        private int givenTo(int step) {
            return placesWith(gives, step);
        }

        private int placesWith(int[] arcs, int step) {
            int bits = 0;
            for (int p = 0; p < toldPlaces; p++) {
                if (arcs[step * MOST_PLACES + p] > 0) {
                    bits |= 1 << p;
                }
            }
            return bits;
        }

        /** Whether a step can be done in the marking that stands in a row from 'at' on. */
        private boolean allows(int step, int[] row, int at) {
            if (!hasStep(step)) {
                return false;
            }
            int arc = step * MOST_PLACES;
            for (int p = 0; p < toldPlaces; p++) {
                int rest = row[at + p] - takes[arc + p];
                if (rest < 0 || rest + gives[arc + p] > MOST_TOKENS) {
                    return false;
                }
            }
            return true;
        }

        private void move(int step, int[] row, int from, int to) {
            if (!hasStep(step)) {
                return;
            }
            for (int p = 0; p < MOST_PLACES; p++) {
                row[to + p] = row[from + p] + change(step, p);
            }
        }

        private int allowed() {
            int bits = 0;
            for (int s = 0; s < toldSteps; s++) {
                if (allows(s, held, 0)) {
                    bits |= 1 << s;
                }
            }
            return bits;
        }

        private boolean eachStepMovesOne() {
            for (int s = 0; s < toldSteps; s++) {
                if (hasStep(s) && (allOfStep(takes, s) != 1 || allOfStep(gives, s) != 1)) {
                    return false;
                }
            }
            return true;
        }

        private int allOfStep(int[] arcs, int step) {
            int all = 0;
            for (int p = 0; p < toldPlaces; p++) {
                all += arcs[step * MOST_PLACES + p];
            }
            return all;
        }

        private boolean eachPlaceIsPassed() {
            for (int p = 0; p < toldPlaces; p++) {
                if (hasPlace(p) && (allOfPlace(takes, p) != 1 || allOfPlace(gives, p) != 1)) {
                    return false;
                }
            }
            return true;
        }

        private int allOfPlace(int[] arcs, int place) {
            int all = 0;
            for (int s = 0; s < toldSteps; s++) {
                all += arcs[s * MOST_PLACES + place];
            }
            return all;
        }

        private boolean rivalsTakeAlike() {
            for (int s = 0; s < toldSteps; s++) {
                for (int t = s + 1; t < toldSteps; t++) {
                    if ((takenFrom(s) & takenFrom(t)) != 0 && !sameOfSteps(takes, s, t)) {
                        return false;
                    }
                }
            }
            return true;
        }

        private boolean sameOfSteps(int[] arcs, int s, int t) {
            for (int p = 0; p < toldPlaces; p++) {
                if (arcs[s * MOST_PLACES + p] != arcs[t * MOST_PLACES + p]) {
                    return false;
                }
            }
            return true;
        }

        private boolean sameOfPlaces(int[] arcs, int p, int q) {
            for (int s = 0; s < toldSteps; s++) {
                if (arcs[s * MOST_PLACES + p] != arcs[s * MOST_PLACES + q]) {
                    return false;
                }
            }
            return true;
        }

        /** The step with an arc of this sort at a place, if there is just one; else NONE. */
        private int onlyStepWith(int[] arcs, int place) {
            int only = NONE;
            for (int s = 0; s < toldSteps; s++) {
                if (arcs[s * MOST_PLACES + place] == 0) {
                    continue;
                }
                if (only != NONE) {
                    return NONE;
                }
                only = s;
            }
            return only;
        }
    }

    /** The nets before the latest acts, in a ring. */
    private static final class Past {
        private final Net[] nets = new Net[MOST_ACTS];
        private int first = 0;
        private int kept = 0;

        private Past() {
            for (int i = 0; i < MOST_ACTS; i++) {
                nets[i] = new Net();
            }
        }

        private void forget() {
            kept = 0;
        }

        private void keep(Net net) {
            if (kept == MOST_ACTS) {
                first = (first + 1) % MOST_ACTS;
            } else {
                kept++;
            }
            nets[(first + kept - 1) % MOST_ACTS].copyFrom(net);
        }

        private boolean restore(Net net) {
            if (kept == 0) {
                return false;
            }
            net.copyFrom(nets[(first + kept - 1) % MOST_ACTS]);
            kept--;
            return true;
        }
    }

    /** The tape, and the reading of it as a net. */
    private static final class Reader {
        private static final int BAD = 0;
        private static final int END = 1;
        private static final int WORD = 2;
        private static final int NUMBER = 3;
        private static final int CLOSE = 4;

        // A word is kept as a number of base 27 (a is 1): six letters stay within an int.
        private static final int PLACE = (((16 * 27 + 12) * 27 + 1) * 27 + 3) * 27 + 5;
        private static final int STEP = ((19 * 27 + 20) * 27 + 5) * 27 + 16;
        private static final int TAKES = (((20 * 27 + 1) * 27 + 11) * 27 + 5) * 27 + 19;
        private static final int GIVES = (((7 * 27 + 9) * 27 + 22) * 27 + 5) * 27 + 19;

        private final int[] tape = new int[MOST_BYTES];
        private final int[] placeNames = new int[MOST_PLACES];
        private final int[] stepNames = new int[MOST_STEPS];
        private int length = 0;
        private int fault = 0;
        private int faultAt = NONE;
        private int at = 0;
        private int sort = END;
        private int start = 0;
        private int word = 0;
        private int number = 0;

        private void append(int four) {
            for (int shift = 24; shift >= 0 && length < MOST_BYTES; shift -= 8) {
                tape[length] = four >>> shift & 255;
                length++;
            }
        }

        private boolean readInto(Net net) {
            fault = 0;
            faultAt = NONE;
            at = 0;
            net.clear();
            advance();
            // Each line takes bytes, so there are never more lines than bytes.
            boolean good = true;
            for (int lines = 0; lines < MOST_BYTES && good && sort != END; lines++) {
                if (sort == WORD && word == PLACE) {
                    good = readPlace(net);
                } else if (sort == WORD && word == STEP) {
                    good = readStep(net);
                } else {
                    good = refuse(2);
                }
            }
            return good;
        }

        private boolean readPlace(Net net) {
            if (net.toldPlaces >= MOST_PLACES) {
                return refuse(5);
            }
            advance();
            if (!readNewName(net)) {
                return false;
            }
            placeNames[net.toldPlaces] = word;
            advance();
            int tokens = 0;
            if (sort == NUMBER) {
                if (number > MOST_TOLD_TOKENS) {
                    return refuse(4);
                }
                tokens = number;
                advance();
            }
            net.addPlace(tokens);
            return readClose();
        }

        private boolean readStep(Net net) {
            if (net.toldSteps >= MOST_STEPS) {
                return refuse(5);
            }
            advance();
            if (!readNewName(net)) {
                return false;
            }
            stepNames[net.toldSteps] = word;
            int step = net.toldSteps;
            net.addStep();
            advance();
            // Each arc takes bytes, so there are never more arcs than bytes.
            for (int i = 0; i < MOST_BYTES && sort == WORD; i++) {
                if (word != TAKES && word != GIVES) {
                    return refuse(2);
                }
                if (!readArc(net, step, word == TAKES ? net.takes : net.gives)) {
                    return false;
                }
            }
            return readClose();
        }

        private boolean readArc(Net net, int step, int[] arcs) {
            int begin = start;
            advance();
            int many = 1;
            if (sort == NUMBER) {
                if (number < 1 || number > MOST_ON_ARC) {
                    return refuse(4);
                }
                many = number;
                advance();
            }
            if (!isName()) {
                return refuse(2);
            }
            int place = indexOf(placeNames, net.toldPlaces);
            if (place == NONE) {
                return refuse(3);
            }
            int arc = step * MOST_PLACES + place;
            if (arcs[arc] + many > MOST_ON_ARC) {
                return refuseAt(4, begin);
            }
            arcs[arc] += many;
            advance();
            return true;
        }

        private boolean readNewName(Net net) {
            if (!isName()) {
                return refuse(2);
            }
            boolean known = indexOf(placeNames, net.toldPlaces) != NONE
                    || indexOf(stepNames, net.toldSteps) != NONE;
            return known ? refuse(3) : true;
        }

        private boolean readClose() {
            if (sort != CLOSE) {
                return refuse(2);
            }
            advance();
            return true;
        }

        private boolean isName() {
            return sort == WORD && word != PLACE && word != STEP && word != TAKES && word != GIVES;
        }

        private int indexOf(int[] names, int many) {
            for (int i = 0; i < many && i < names.length; i++) {
                if (names[i] == word) {
                    return i;
                }
            }
            return NONE;
        }

        private boolean refuse(int number) {
            // What is no token at all is that first of all, whatever was looked for there.
            return refuseAt(sort == BAD ? 1 : number, start);
        }

        private boolean refuseAt(int number, int place) {
            fault = number;
            faultAt = place;
            return false;
        }

        private void advance() {
            for (int i = at; i < length && isBlank(i); i++) {
                at = i + 1;
            }
            start = at;
            if (at >= length) {
                sort = END;
            } else if (isLetter(at)) {
                readWord();
            } else if (isDigit(at)) {
                readNumber();
            } else {
                sort = tape[at] == ';' ? CLOSE : BAD;
                at++;
            }
        }

        private void readWord() {
            word = 0;
            for (int i = start; i < length && isLetter(i); i++) {
                word = word * 27 + (tape[i] - 'a' + 1);
                at = i + 1;
            }
            sort = at - start <= MOST_LETTERS ? WORD : BAD;
        }

        private void readNumber() {
            number = 0;
            for (int i = start; i < length && isDigit(i); i++) {
                number = number * 10 + (tape[i] - '0');
                at = i + 1;
            }
            boolean letterBehind = at < length && isLetter(at);
            sort = at - start <= MOST_DIGITS && !letterBehind ? NUMBER : BAD;
        }

        private boolean isBlank(int i) {
            return tape[i] == 32 || tape[i] == 10;
        }

        private boolean isLetter(int i) {
            return tape[i] >= 'a' && tape[i] <= 'z';
        }

        private boolean isDigit(int i) {
            return tape[i] >= '0' && tape[i] <= '9';
        }
    }

    /**
     * SUMS (units are places) or ROWS (units are steps). A set of units is a least support just if
     * its changes depend on each other in one way alone, with numbers that are all above 0: so
     * sets are grown unit by unit while they are independent, and looked at where they cease to be.
     */
    private static final class Weights {
        private static final int WIDTH = 2 * MOST_PLACES;

        private final boolean ofSteps;
        // A row: the changes of a mixture of units, then how often each unit is in it.
        private final long[] rows = new long[(MOST_PLACES + 1) * WIDTH];
        private final int[] pivots = new int[MOST_PLACES + 1];
        private final int[] supports = new int[MOST_LEAST];
        private final int[] numbers = new int[MOST_LEAST * MOST_PLACES];
        private int count = 0;
        private int covering = 0;
        private int form = NONE;

        private Weights(boolean ofSteps) {
            this.ofSteps = ofSteps;
        }

        private void findLeast(Net net) {
            if (form == net.form) {
                return;
            }
            form = net.form;
            count = 0;
            covering = 0;
            search(net, MOST_PLACES - 1, 0, 0);
        }

        private int rankOf(Net net) {
            int rank = 0;
            for (int unit = 0; unit < MOST_PLACES; unit++) {
                if (isUnit(net, unit) && isIndependent(net, unit, rank)) {
                    rank++;
                }
            }
            return rank;
        }

        // From the highest unit down, first without it, then with it: so sets come by their bits.
        private void search(Net net, int unit, int set, int size) {
            if (unit < 0 || size > MOST_PLACES) {
                return;
            }
            search(net, unit - 1, set, size);
            if (!isUnit(net, unit)) {
                return;
            }
            if (isIndependent(net, unit, size)) {
                search(net, unit - 1, set | 1 << unit, size + 1);
            } else {
                keepIfAbove(set | 1 << unit, size * WIDTH + MOST_PLACES);
            }
        }

        private boolean isUnit(Net net, int unit) {
            return ofSteps ? net.hasStep(unit) : net.hasPlace(unit);
        }

        /** Lays a unit's row behind the first 'size' ones, which are independent, and clears it. */
        private boolean isIndependent(Net net, int unit, int size) {
            int row = size * WIDTH;
            for (int i = 0; i < MOST_PLACES; i++) {
                rows[row + i] = changeOf(net, unit, i);
                rows[row + MOST_PLACES + i] = i == unit ? 1 : 0;
            }
            for (int k = 0; k < size; k++) {
                clearColumn(rows, size, k, pivots[k], WIDTH);
            }
            for (int i = 0; i < MOST_PLACES; i++) {
                if (rows[row + i] != 0) {
                    pivots[size] = i;
                    return true;
                }
            }
            return false;
        }

        private int changeOf(Net net, int unit, int other) {
            if (ofSteps) {
                return net.change(unit, other);
            }
            return other < MOST_STEPS ? net.change(other, unit) : 0;
        }

        private void keepIfAbove(int set, int at) {
            boolean above = true;
            boolean below = true;
            for (int i = 0; i < MOST_PLACES; i++) {
                if ((set >> i & 1) == 1) {
                    above = above && rows[at + i] > 0;
                    below = below && rows[at + i] < 0;
                }
            }
            if (count >= MOST_LEAST || !above && !below) {
                return;
            }
            supports[count] = set;
            for (int i = 0; i < MOST_PLACES; i++) {
                numbers[count * MOST_PLACES + i] = (int) Math.abs(rows[at + i]);
            }
            covering |= set;
            count++;
        }

        private long weigh(int k, Net net) {
            long all = 0;
            for (int p = 0; p < MOST_PLACES; p++) {
                all += (long) numbers[k * MOST_PLACES + p] * net.held[p];
            }
            return all;
        }

        private long leastBound(int place, Net net) {
            long least = NONE;
            for (int k = 0; k < count; k++) {
                int share = numbers[k * MOST_PLACES + place];
                if (share > 0) {
                    long most = weigh(k, net) / share;
                    least = least == NONE ? most : Math.min(least, most);
                }
            }
            return least;
        }
    }

    /**
     * SIPHONS or TRAPS: a set is one, if each step that touches it on the one side (asks) touches
     * it on the other side too (needs); traps are siphons with the sides changed.
     */
    private static final class PlaceSets {
        private final boolean ofTraps;
        private final int[] asks = new int[MOST_STEPS];
        private final int[] needs = new int[MOST_STEPS];
        private final int[] least = new int[MOST_LEAST];
        private final byte[] holdsOne = new byte[ALL_SETS];
        private int count = 0;
        private int form = NONE;
        private boolean isSearched = false;

        private PlaceSets(boolean ofTraps) {
            this.ofTraps = ofTraps;
        }

        private void lookAt(Net net) {
            if (form == net.form) {
                return;
            }
            form = net.form;
            isSearched = false;
            for (int s = 0; s < MOST_STEPS; s++) {
                asks[s] = ofTraps ? net.takenFrom(s) : net.givenTo(s);
                needs[s] = ofTraps ? net.givenTo(s) : net.takenFrom(s);
            }
        }

        private void findLeast(int places) {
            if (isSearched) {
                return;
            }
            isSearched = true;
            count = 0;
            holdsOne[0] = 0;
            for (int set = 1; set < ALL_SETS; set++) {
                holdsOne[set] = 0;
                if ((set & ~places) != 0) {
                    continue;
                }
                if (holdsSmaller(set)) {
                    holdsOne[set] = 1;
                } else if (isClosed(set) && count < MOST_LEAST) {
                    holdsOne[set] = 1;
                    least[count] = set;
                    count++;
                }
            }
        }

        private boolean holdsSmaller(int set) {
            for (int p = 0; p < MOST_PLACES; p++) {
                if ((set >> p & 1) == 1 && holdsOne[set & ~(1 << p)] == 1) {
                    return true;
                }
            }
            return false;
        }

        private boolean isClosed(int set) {
            for (int s = 0; s < MOST_STEPS; s++) {
                if ((asks[s] & set) != 0 && (needs[s] & set) == 0) {
                    return false;
                }
            }
            return true;
        }

        private int largestWithin(int set) {
            int left = set;
            // Each turn but the last takes a place away.
            for (int turn = 0; turn <= MOST_PLACES; turn++) {
                int before = left;
                for (int s = 0; s < MOST_STEPS; s++) {
                    if ((asks[s] & left) != 0 && (needs[s] & left) == 0) {
                        left &= ~asks[s];
                    }
                }
                if (left == before) {
                    break;
                }
            }
            return left;
        }
    }

    /** AIM, COUNTS and ORDER. */
    private static final class Seeker {
        private static final int WIDTH = MOST_STEPS + 1;

        private final int[] aims = new int[MOST_PLACES];
        private final long[] rows = new long[MOST_PLACES * WIDTH];
        private final int[] rowOf = new int[MOST_STEPS];
        private final int[] tried = new int[MOST_STEPS];
        private final int[] best = new int[MOST_STEPS];
        private final int[] line = new int[MOST_COUNTED];
        private final int[] walk = new int[(MOST_COUNTED + 1) * MOST_PLACES];
        private final int[] left = new int[MOST_STEPS];
        private final byte[] failed = new byte[MOST_PARTS];
        private int total = NONE;
        private int limit = 0;
        private int useful = 0;
        private int countedState = NONE;
        private boolean isLined = false;
        private boolean hasLine = false;

        private void forgetAims() {
            Arrays.fill(aims, 0);
            countedState = NONE;
        }

        private int putAim(int place, int n) {
            int was = aims[place];
            aims[place] = n;
            countedState = NONE;
            return was;
        }

        private boolean isAimed(int places, int[] row, int at) {
            for (int p = 0; p < MOST_PLACES; p++) {
                if ((places >> p & 1) == 1 && row[at + p] != aims[p]) {
                    return false;
                }
            }
            return true;
        }

        private void findCounts(Net net) {
            if (countedState == net.state) {
                return;
            }
            countedState = net.state;
            isLined = false;
            total = NONE;
            limit = MOST_COUNTED;
            findUseful(net);
            layRows(net);
            if (solveRows()) {
                seek(0, 0);
            }
        }

        private void findUseful(Net net) {
            useful = 0;
            for (int s = 0; s < MOST_STEPS; s++) {
                if (isUseful(net, s)) {
                    useful |= 1 << s;
                }
            }
        }

        // Doing what changes nothing makes no counts fewer; and of steps that change the same, the
        // first counts by numbers do the last one alone.
        private static boolean isUseful(Net net, int step) {
            for (int t = step + 1; t < MOST_STEPS; t++) {
                if (net.changeAlike(step, t)) {
                    return false;
                }
            }
            return !net.changesNothing(step);
        }

        private void layRows(Net net) {
            for (int p = 0; p < MOST_PLACES; p++) {
                for (int s = 0; s < MOST_STEPS; s++) {
                    rows[p * WIDTH + s] = net.change(s, p);
                }
                rows[p * WIDTH + MOST_STEPS] = net.hasPlace(p) ? aims[p] - net.held[p] : 0;
            }
        }

        /**
         * From the last step back each step that can gets a row of its own, in which no later step
         * is left: its count follows from those of the steps before it. False: there are no counts.
         */
        private boolean solveRows() {
            int used = 0;
            for (int s = MOST_STEPS - 1; s >= 0; s--) {
                int own = freeRowWith(s, used);
                rowOf[s] = own;
                if (own == NONE) {
                    continue;
                }
                used |= 1 << own;
                for (int r = 0; r < MOST_PLACES; r++) {
                    if ((used >> r & 1) == 0) {
                        clearColumn(rows, r, own, s, WIDTH);
                    }
                }
            }
            return canBeWhole();
        }

        /** Whether each row for itself can be met by whole numbers, be they below 0. */
        private boolean canBeWhole() {
            for (int r = 0; r < MOST_PLACES; r++) {
                long common = 0;
                for (int s = 0; s < MOST_STEPS; s++) {
                    common = commonDivisor(common, rows[r * WIDTH + s]);
                }
                long all = rows[r * WIDTH + MOST_STEPS];
                if (common == 0 ? all != 0 : all % common != 0) {
                    return false;
                }
            }
            return true;
        }

        private int freeRowWith(int step, int used) {
            for (int r = 0; r < MOST_PLACES; r++) {
                if ((used >> r & 1) == 0 && rows[r * WIDTH + step] != 0) {
                    return r;
                }
            }
            return NONE;
        }

        // Counts are tried by numbers and kept only if there are fewer in all: so of like ones the
        // first stays.
        private void seek(int step, int done) {
            if (done > limit || !canStillBe(step, limit - done)) {
                return;
            }
            if (step >= MOST_STEPS) {
                total = done;
                limit = done - 1;
                System.arraycopy(tried, 0, best, 0, MOST_STEPS);
                return;
            }
            int least = 0;
            int most = (useful >> step & 1) == 1 ? MOST_COUNTED : 0;
            if (rowOf[step] != NONE) {
                least = countByRow(step);
                most = least;
            }
            for (int n = least; n >= 0 && n <= most && done + n <= limit; n++) {
                tried[step] = n;
                seek(step + 1, done + n);
            }
        }

        /** Whether so many steps more, none before this one, are enough for each row to be met. */
        private boolean canStillBe(int step, int more) {
            for (int s = step; s < MOST_STEPS; s++) {
                if (rowOf[s] == NONE) {
                    continue;
                }
                int row = rowOf[s] * WIDTH;
                long low = 0;
                long high = 0;
                for (int t = step; t <= s; t++) {
                    low = Math.min(low, rows[row + t]);
                    high = Math.max(high, rows[row + t]);
                }
                long missing = missingIn(row, step);
                if (missing < low * more || missing > high * more) {
                    return false;
                }
            }
            return true;
        }

        private long missingIn(int row, int step) {
            long missing = rows[row + MOST_STEPS];
            for (int s = 0; s < step; s++) {
                missing -= rows[row + s] * tried[s];
            }
            return missing;
        }

        private int countByRow(int step) {
            int row = rowOf[step] * WIDTH;
            long own = rows[row + step];
            long missing = missingIn(row, step);
            if (own == 0 || missing % own != 0) {
                return NONE;
            }
            long n = missing / own;
            return n >= 0 && n <= MOST_COUNTED ? (int) n : NONE;
        }

        private boolean findOrder(Net net) {
            if (isLined) {
                return hasLine;
            }
            isLined = true;
            System.arraycopy(best, 0, left, 0, MOST_STEPS);
            System.arraycopy(net.held, 0, walk, 0, MOST_PLACES);
            Arrays.fill(failed, (byte) 0);
            hasLine = goOn(net, 0);
            return hasLine;
        }

        private boolean goOn(Net net, int done) {
            if (done >= total || done >= MOST_COUNTED) {
                return true;
            }
            int part = partLeft();
            if (part >= MOST_PARTS || failed[part] == 1) {
                return false;
            }
            for (int s = 0; s < MOST_STEPS; s++) {
                if (left[s] > 0 && net.allows(s, walk, done * MOST_PLACES)) {
                    net.move(s, walk, done * MOST_PLACES, (done + 1) * MOST_PLACES);
                    line[done] = s;
                    left[s]--;
                    if (goOn(net, done + 1)) {
                        return true;
                    }
                    left[s]++;
                }
            }
            // The same steps done in another order lead to the same marking: it fails there too.
            failed[part] = 1;
            return false;
        }

        private int partLeft() {
            int part = 0;
            for (int s = 0; s < MOST_STEPS; s++) {
                part = part * (best[s] + 1) + left[s];
            }
            return part;
        }
    }

    /** The markings that come from one, with the ways between them. */
    private static final class Graph {
        // One marking more than are kept: the next one is tried there.
        private final int[] markings = new int[(MOST_MARKINGS + 1) * MOST_PLACES];
        private final int[] from = new int[MOST_MARKINGS];
        private final int[] by = new int[MOST_MARKINGS];
        private final int[] ways = new int[MOST_MARKINGS];
        private final int[] next = new int[MOST_MARKINGS * MOST_STEPS];
        private final int[] table = new int[TABLE_SIZE];
        private final int[] backStart = new int[MOST_MARKINGS + 1];
        private final int[] backFrom = new int[MOST_MARKINGS * MOST_STEPS];
        private final int[] seen = new int[MOST_MARKINGS];
        private final int[] queue = new int[MOST_MARKINGS];
        private final int[] home = new int[MOST_MARKINGS];
        private int state = NONE;
        private int size = 0;
        private boolean full = false;
        private int queued = 0;
        private boolean isLinked = false;
        private int homes = NONE;
        private int liveBits = NONE;

        private void grow(Net net, int ofState) {
            if (state == ofState) {
                return;
            }
            state = ofState;
            size = 0;
            full = false;
            isLinked = false;
            homes = NONE;
            liveBits = NONE;
            Arrays.fill(table, NONE);
            System.arraycopy(net.held, 0, markings, 0, MOST_PLACES);
            findOrAdd(NONE, NONE);
            for (int i = 0; i < size && i < MOST_MARKINGS; i++) {
                goFrom(net, i);
            }
        }

        private void goFrom(Net net, int i) {
            ways[i] = 0;
            for (int s = 0; s < MOST_STEPS; s++) {
                int target = NONE;
                if (net.allows(s, markings, i * MOST_PLACES)) {
                    ways[i] |= 1 << s;
                    net.move(s, markings, i * MOST_PLACES, size * MOST_PLACES);
                    target = findOrAdd(i, s);
                }
                next[i * MOST_STEPS + s] = target;
            }
        }

        /** The number of the marking that stands behind all others; NONE if it comes too late. */
        private int findOrAdd(int source, int step) {
            int slot = slotOf(size * MOST_PLACES);
            for (int turn = 0; turn < TABLE_SIZE && table[slot] != NONE; turn++) {
                if (isSame(table[slot])) {
                    return table[slot];
                }
                slot = (slot + 1) & (TABLE_SIZE - 1);
            }
            if (size >= MOST_MARKINGS) {
                full = true;
                return NONE;
            }
            table[slot] = size;
            from[size] = source;
            by[size] = step;
            size++;
            return size - 1;
        }

        private int slotOf(int at) {
            int hash = 0;
            for (int p = 0; p < MOST_PLACES; p++) {
                hash = hash * 31 + markings[at + p];
            }
            return (hash ^ hash >>> 10 ^ hash >>> 20) & (TABLE_SIZE - 1);
        }

        private boolean isSame(int i) {
            for (int p = 0; p < MOST_PLACES; p++) {
                if (markings[i * MOST_PLACES + p] != markings[size * MOST_PLACES + p]) {
                    return false;
                }
            }
            return true;
        }

        private int depthOf(int i) {
            int depth = 0;
            for (int k = from[i]; k != NONE && depth < MOST_MARKINGS; k = from[k]) {
                depth++;
            }
            return depth;
        }

        private int deadOnes() {
            int dead = 0;
            for (int i = 0; i < size; i++) {
                if (ways[i] == 0) {
                    dead++;
                }
            }
            return dead;
        }

        private int firstDead() {
            for (int i = 0; i < size; i++) {
                if (ways[i] == 0) {
                    return i;
                }
            }
            return NONE;
        }

        private int mostIn(int place) {
            int most = 0;
            for (int i = 0; i < size; i++) {
                most = Math.max(most, markings[i * MOST_PLACES + place]);
            }
            return most;
        }

        private int liveOnes(Net net) {
            if (liveBits != NONE) {
                return liveBits;
            }
            linkBack();
            liveBits = 0;
            for (int s = 0; s < MOST_STEPS; s++) {
                if (net.hasStep(s) && comesFromAll(s)) {
                    liveBits |= 1 << s;
                }
            }
            return liveBits;
        }

        private boolean comesFromAll(int step) {
            forgetSeen();
            for (int i = 0; i < size; i++) {
                if ((ways[i] >> step & 1) == 1) {
                    see(i);
                }
            }
            spreadBack(0);
            return queued == size;
        }

        private void findHomes() {
            if (homes != NONE) {
                return;
            }
            linkBack();
            int candidate = lastStart();
            forgetSeen();
            see(candidate);
            spreadBack(0);
            boolean isHome = queued == size;
            forgetSeen();
            if (isHome) {
                see(candidate);
                spreadOn();
            }
            // What comes from a home is home itself, and no other is.
            homes = queued;
            System.arraycopy(seen, 0, home, 0, size);
        }

        /** Going back from one not yet seen until all are: only the last start can be a home. */
        private int lastStart() {
            int last = 0;
            forgetSeen();
            for (int i = 0; i < size; i++) {
                if (seen[i] == 0) {
                    last = i;
                    int first = queued;
                    see(i);
                    spreadBack(first);
                }
            }
            return last;
        }

        private void forgetSeen() {
            queued = 0;
            Arrays.fill(seen, 0);
        }

        private void see(int i) {
            if (seen[i] == 0 && queued < MOST_MARKINGS) {
                seen[i] = 1;
                queue[queued] = i;
                queued++;
            }
        }

        private void spreadBack(int first) {
            for (int k = first; k < queued && k < MOST_MARKINGS; k++) {
                int i = queue[k];
                for (int e = backStart[i]; e < backStart[i + 1]; e++) {
                    see(backFrom[e]);
                }
            }
        }

        private void spreadOn() {
            for (int k = 0; k < queued && k < MOST_MARKINGS; k++) {
                int i = queue[k];
                for (int s = 0; s < MOST_STEPS; s++) {
                    if (next[i * MOST_STEPS + s] != NONE) {
                        see(next[i * MOST_STEPS + s]);
                    }
                }
            }
        }

        /** Sorts the ways by where they lead: those to i stand from backStart[i] on. */
        private void linkBack() {
            if (isLinked) {
                return;
            }
            isLinked = true;
            Arrays.fill(backStart, 0);
            for (int e = 0; e < size * MOST_STEPS; e++) {
                if (next[e] != NONE) {
                    backStart[next[e]]++;
                }
            }
            int all = 0;
            for (int i = 0; i <= size; i++) {
                all += backStart[i];
                backStart[i] = all;
            }
            for (int e = 0; e < size * MOST_STEPS; e++) {
                if (next[e] != NONE) {
                    backStart[next[e]]--;
                    backFrom[backStart[next[e]]] = e / MOST_STEPS;
                }
            }
        }
    }

    /** REDUCED and the RULES that led to it. */
    private static final class Reducer {
        private final Net small = new Net();
        private final int[] numbers = new int[MOST_RULES];
        private final int[] gonePlaces = new int[MOST_RULES];
        private final int[] goneSteps = new int[MOST_RULES];
        private int count = 0;
        private int state = NONE;

        private void makeSmall(Net net) {
            if (state == net.state) {
                return;
            }
            state = net.state;
            small.copyFrom(net);
            count = 0;
            // Each rule takes a place or a step away, so there are never more than both together.
            for (int i = 0; i < MOST_RULES; i++) {
                if (!doFirstThatFits()) {
                    break;
                }
            }
        }

        private boolean doFirstThatFits() {
            return dropLikePlace() || dropLikeStep() || dropIdlePlace() || dropIdleStep()
                    || joinSteps() || joinPlaces();
        }

        private boolean note(int number, int place, int step) {
            if (count < MOST_RULES) {
                numbers[count] = number;
                gonePlaces[count] = place;
                goneSteps[count] = step;
                count++;
            }
            if (place != NONE) {
                small.dropPlace(place);
            }
            if (step != NONE) {
                small.dropStep(step);
            }
            return true;
        }

        private boolean dropLikePlace() {
            for (int p = 0; p < small.toldPlaces; p++) {
                for (int q = p + 1; q < small.toldPlaces; q++) {
                    if (small.hasPlace(p) && small.hasPlace(q) && small.held[p] <= small.held[q]
                            && small.sameOfPlaces(small.takes, p, q)
                            && small.sameOfPlaces(small.gives, p, q)) {
                        return note(1, q, NONE);
                    }
                }
            }
            return false;
        }

        private boolean dropLikeStep() {
            for (int s = 0; s < small.toldSteps; s++) {
                for (int t = s + 1; t < small.toldSteps; t++) {
                    if (small.hasStep(s) && small.hasStep(t)
                            && small.sameOfSteps(small.takes, s, t)
                            && small.sameOfSteps(small.gives, s, t)) {
                        return note(2, NONE, t);
                    }
                }
            }
            return false;
        }

        private boolean dropIdlePlace() {
            for (int p = 0; p < small.toldPlaces; p++) {
                if (small.hasPlace(p) && isNeverChanged(p) && small.held[p] >= mostTaken(p)) {
                    return note(3, p, NONE);
                }
            }
            return false;
        }

        private boolean isNeverChanged(int place) {
            for (int s = 0; s < small.toldSteps; s++) {
                if (small.change(s, place) != 0) {
                    return false;
                }
            }
            return true;
        }

        private int mostTaken(int place) {
            int most = 0;
            for (int s = 0; s < small.toldSteps; s++) {
                most = Math.max(most, small.takes[s * MOST_PLACES + place]);
            }
            return most;
        }

        private boolean dropIdleStep() {
            if (Integer.bitCount(small.steps) < 2) {
                return false;
            }
            for (int s = 0; s < small.toldSteps; s++) {
                if (small.hasStep(s) && small.changesNothing(s)) {
                    return note(4, NONE, s);
                }
            }
            return false;
        }

        private boolean joinSteps() {
            for (int p = 0; p < small.toldPlaces; p++) {
                if (!small.hasPlace(p) || small.held[p] != 0) {
                    continue;
                }
                int s = small.onlyStepWith(small.gives, p);
                int t = small.onlyStepWith(small.takes, p);
                if (s != NONE && t != NONE && s != t && isJoint(s, p, t)) {
                    for (int x = 0; x < small.toldPlaces; x++) {
                        small.gives[s * MOST_PLACES + x] += small.gives[t * MOST_PLACES + x];
                    }
                    return note(5, p, t);
                }
            }
            return false;
        }

        private boolean isJoint(int s, int p, int t) {
            if (small.gives[s * MOST_PLACES + p] != 1 || small.takes[t * MOST_PLACES + p] != 1
                    || small.takenFrom(t) != 1 << p) {
                return false;
            }
            for (int x = 0; x < small.toldPlaces; x++) {
                int both = small.gives[s * MOST_PLACES + x] + small.gives[t * MOST_PLACES + x];
                if (both > MOST_ON_ARC) {
                    return false;
                }
            }
            return true;
        }

        private boolean joinPlaces() {
            for (int s = 0; s < small.toldSteps; s++) {
                if (!small.hasStep(s) || small.allOfStep(small.takes, s) != 1
                        || small.allOfStep(small.gives, s) != 1) {
                    continue;
                }
                int p = bitAt(small.takenFrom(s), 0);
                int q = bitAt(small.givenTo(s), 0);
                if (p != q && small.hasPlace(p) && small.hasPlace(q)
                        && small.onlyStepWith(small.takes, p) == s && canJoin(p, q)) {
                    small.held[q] += small.held[p];
                    for (int u = 0; u < small.toldSteps; u++) {
                        small.gives[u * MOST_PLACES + q] += small.gives[u * MOST_PLACES + p];
                    }
                    return note(6, p, s);
                }
            }
            return false;
        }

        private boolean canJoin(int p, int q) {
            if (small.held[p] + small.held[q] > MOST_TOKENS) {
                return false;
            }
            for (int u = 0; u < small.toldSteps; u++) {
                int both = small.gives[u * MOST_PLACES + p] + small.gives[u * MOST_PLACES + q];
                if (both > MOST_ON_ARC) {
                    return false;
                }
            }
            return true;
        }
    }
}
