import java.util.ArrayList;
import java.util.List;
import java.util.NoSuchElementException;
import java.util.Random;

/** Random runs of calls, all promises, each answer held against the model's. */
public final class RandomCallsTest {
    private static final int RUNS = Integer.getInteger("runs", 400);
    private static final int CALLS = 160;
    private static final long NO_SUCH = Long.MIN_VALUE + 7;

    private final Random random;
    private final TokenSums x = new TokenSums();
    private final Model m = new Model();
    private final List<String> told = new ArrayList<>();

    private RandomCallsTest(long seed) {
        random = new Random(seed);
    }

    public static void main(String[] args) {
        int bad = 0;
        long first = Long.getLong("seed", 1);
        for (long seed = first; seed < first + RUNS && bad < 5; seed++) {
            if (!new RandomCallsTest(seed).go(seed)) {
                bad++;
            }
        }
        System.out.println("RandomCallsTest: " + RUNS + " runs, " + bad + " not as due");
        if (bad != 0) {
            System.exit(1);
        }
    }

    private boolean go(long seed) {
        boolean good = layBoth(netText());
        for (int i = 0; i < CALLS; i++) {
            good = good && oneCall();
            if (!good) {
                System.out.println("seed " + seed + ", nets and calls:");
                for (String t : told) {
                    System.out.println("  " + t);
                }
                return false;
            }
        }
        return true;
    }

    private boolean layBoth(String text) {
        boolean good = true;
        told.add("net '" + text + "'");
        byte[] bytes = text.getBytes(java.nio.charset.StandardCharsets.ISO_8859_1);
        for (int i = 0; i < bytes.length; i += 20) {
            int[] n = new int[5];
            for (int k = 0; k < 5; k++) {
                n[k] = Due.four(bytes, i + 4 * k);
            }
            good &= same("feed", x.feed(n[0], n[1], n[2], n[3], n[4]), m.feed(n));
        }
        good &= same("end", x.end(bytes.length), m.end(bytes.length));
        good &= same("net", x.net(), m.net());
        good &= same("fault(0)", x.fault(0), m.fault(0));
        return good & same("fault(1)", x.fault(1), m.fault(1));
    }

    private boolean same(String call, long got, long want) {
        told.add(call + " -> " + got + (got == want ? "" : ", due is " + want));
        return got == want;
    }

    // ---- nets

    private String netText() {
        int places = size(10, 7);
        int steps = size(8, 6);
        int shape = random.nextInt(4);
        StringBuilder text = new StringBuilder();
        for (int p = 0; p < places; p++) {
            text.append("place ").append((char) ('a' + p));
            if (random.nextInt(3) > 0) {
                text.append(' ').append(random.nextInt(10) == 0 ? random.nextInt(100) : random.nextInt(3));
            }
            text.append(random.nextInt(9) == 0 ? " ;\n" : ";");
        }
        for (int s = 0; s < steps; s++) {
            text.append("step ").append((char) ('p' + s));
            if (places > 0) {
                if (shape == 0) {
                    ring(text, s, steps, places);
                } else {
                    arcs(text, places, shape);
                }
            }
            text.append(';');
        }
        return text.toString();
    }

    /** The ends, none and as many as there can be, come often enough to be met. */
    private int size(int most, int usual) {
        switch (random.nextInt(12)) {
            case 0: return most;
            case 1: return random.nextInt(most + 1);
            default: return 1 + random.nextInt(usual);
        }
    }

    /** Each step moves from one place to the next, now and then with something beside it. */
    private void ring(StringBuilder text, int s, int steps, int places) {
        text.append(" takes ").append((char) ('a' + s % places));
        text.append(" gives ").append((char) ('a' + (s + 1) % Math.min(places, steps)));
        if (random.nextInt(5) == 0) {
            arcs(text, places, 1);
        }
    }

    private void arcs(StringBuilder text, int places, int shape) {
        int many = random.nextInt(shape == 1 ? 3 : 5);
        int[] sums = new int[2 * places];
        for (int i = 0; i < many; i++) {
            int p = random.nextInt(places);
            int sort = i == 0 ? 0 : i == 1 ? 1 : random.nextInt(2);
            int n = shape == 3 ? 1 + random.nextInt(3) : random.nextInt(5) == 0 ? 2 : 1;
            if (sums[sort * places + p] + n > 3) {
                continue;
            }
            sums[sort * places + p] += n;
            text.append(sort == 0 ? " takes " : " gives ");
            if (n > 1 || random.nextInt(9) == 0) {
                text.append(n).append(' ');
            }
            text.append((char) ('a' + p));
        }
    }

    private String spoilt(String text) {
        StringBuilder t = new StringBuilder(text);
        String[] bits = {"place", "step", "takes", "gives", ";", " ", "a", "0", "4", "2", "100", "99x", "abcdefg", "!", "place a;", "\n", "takes 3 a"};
        for (int i = random.nextInt(3); i >= 0 && t.length() > 0; i--) {
            int at = random.nextInt(t.length());
            if (random.nextInt(3) == 0) {
                t.deleteCharAt(at);
            } else if (random.nextInt(3) == 0) {
                t.setCharAt(at, (char) random.nextInt(256));
            } else {
                t.insert(at, bits[random.nextInt(bits.length)]);
            }
        }
        return t.length() > 900 ? t.substring(0, 900) : t.toString();
    }

    // ---- calls

    private int what(int most) {
        return random.nextInt(12) == 0 ? random.nextInt(5) == 0 ? random.nextInt() : -1 + random.nextInt(most + 4)
                : random.nextInt(most + 1);
    }

    private int place() {
        return random.nextInt(15) == 0 ? -2 + random.nextInt(14) : random.nextInt(Math.max(1, m.net.place.length));
    }

    private int step() {
        return random.nextInt(15) == 0 ? -2 + random.nextInt(12) : random.nextInt(Math.max(1, m.net.step.length));
    }

    private int some(int most) {
        return random.nextInt(15) == 0 ? random.nextInt() : -1 + random.nextInt(most + 2);
    }

    private int tokens() {
        switch (random.nextInt(8)) {
            case 0: return 995 + random.nextInt(7);
            case 1: return -1 + random.nextInt(1002);
            default: return random.nextInt(4);
        }
    }

    private boolean oneCall() {
        switch (random.nextInt(10)) {
            case 0: return acts();
            case 1: return acts();
            case 2: return aboutNet();
            case 3: return weights();
            case 4: return sets();
            case 5: return aims();
            case 6: return graph();
            case 7: return graph();
            case 8: return reduced();
            default: return rare();
        }
    }

    private boolean acts() {
        int p = place();
        int s = step();
        int n = tokens();
        switch (random.nextInt(7)) {
            case 0: return same("set(" + p + ", " + n + ")", x.set(p, n), m.set(p, n));
            case 1:
                int seed = random.nextInt();
                int many = random.nextInt(4) == 0 ? -1 + random.nextInt(204) : 1 + random.nextInt(4);
                return same("run(" + seed + ", " + many + ")", x.run(seed, many), m.run(seed, many));
            case 2: return same("undo()", x.undo() ? 1 : 0, m.undo() ? 1 : 0);
            case 3: return same("can()", x.can(), m.can());
            default: return same("fire(" + s + ")", x.fire(s), m.fire(s));
        }
    }

    private boolean aboutNet() {
        int p = place();
        int s = step();
        int w = what(7);
        switch (random.nextInt(4)) {
            case 0: return same("about(" + w + ")", x.about(w), m.about(w));
            case 1: return same("arc(" + s + ", " + p + ", " + w % 4 + ")", x.arc(s, p, w % 4), m.arc(s, p, w % 4));
            case 2: return same("tokens(" + p + ")", x.tokens(p), m.tokens(p));
            default: return same("kind(" + w % 4 + ")", x.kind(w % 4), m.kind(w % 4));
        }
    }

    private boolean weights() {
        int w = what(1);
        int p = place();
        int k = some(5);
        switch (random.nextInt(6)) {
            case 0: return same("sums(" + w + ")", x.sums(w), m.sums(w));
            case 1: return same("sum(" + w + ", " + k + ", " + p + ")", x.sum(w, k, p), m.sum(w, k, p));
            case 2: return same("support(" + w + ", " + k + ")", supportOf(w, k), modelSupport(w, k));
            case 3: return same("covered(" + w + ")", x.covered(w), m.covered(w));
            case 4: return same("value(" + k + ")", x.value(k), m.value(k));
            default: return same("bound(" + p + ")", x.bound(p), m.bound(p));
        }
    }

    private long supportOf(int w, int k) {
        try {
            return x.support(w, k);
        } catch (NoSuchElementException e) {
            return NO_SUCH;
        }
    }

    private long modelSupport(int w, int k) {
        try {
            return m.support(w, k);
        } catch (NoSuchElementException e) {
            return NO_SUCH;
        }
    }

    private long siphonOf(int w, int k) {
        try {
            return x.siphon(w, k);
        } catch (NoSuchElementException e) {
            return NO_SUCH;
        }
    }

    private long modelSiphon(int w, int k) {
        try {
            return m.siphon(w, k);
        } catch (NoSuchElementException e) {
            return NO_SUCH;
        }
    }

    private boolean sets() {
        int w = what(1);
        int k = some(5);
        int bits = random.nextInt(9) == 0 ? random.nextInt() : random.nextInt(1 << m.net.place.length);
        switch (random.nextInt(6)) {
            case 0: return same("siphons(" + w + ")", x.siphons(w), m.siphons(w));
            case 1: return same("siphon(" + w + ", " + k + ")", siphonOf(w, k), modelSiphon(w, k));
            case 2: return same("isSiphon(" + w + ", " + bits + ")", x.isSiphon(w, bits), m.isSiphon(w, bits));
            case 3: return same("greatest(" + w + ", " + bits + ")", x.greatest(w, bits), m.greatest(w, bits));
            case 4: return same("unguarded(" + k + ")", x.unguarded(k), m.unguarded(k));
            default: return same("lost()", x.lost(), m.lost());
        }
    }

    private boolean aims() {
        int p = place();
        int n = tokens();
        int s = random.nextInt(3) == 0 ? -1 : step();
        int i = some(8);
        switch (random.nextInt(6)) {
            case 0: return same("aim(" + p + ", " + n + ")", x.aim(p, n), m.aim(p, n));
            case 1: return aimAhead();
            case 2: return same("counts(" + s + ")", x.counts(s), m.counts(s));
            case 3: return same("counts(" + s + ")", x.counts(s), m.counts(s));
            case 4: return same("order(" + i + ")", x.order(i), m.order(i));
            default: return same("reaches()", x.reaches(), m.reaches());
        }
    }

    /** Aims at a marking some changes away, whether or not they can be done, with all its answers. */
    private boolean aimAhead() {
        int[] goal = m.net.tokens.clone();
        List<Integer> steps = m.net.steps();
        for (int i = random.nextInt(13); i > 0 && !steps.isEmpty(); i--) {
            int s = steps.get(random.nextInt(steps.size()));
            for (int p : m.net.places()) {
                goal[p] += m.net.gives[s][p] - m.net.takes[s][p];
            }
        }
        boolean good = true;
        for (int p : m.net.places()) {
            good &= same("aim(" + p + ", " + goal[p] + ")", x.aim(p, goal[p]), m.aim(p, goal[p]));
        }
        for (int s = -1; s < 8; s++) {
            good &= same("counts(" + s + ")", x.counts(s), m.counts(s));
        }
        for (int i = -1; i < 4; i++) {
            good &= same("order(" + i + ")", x.order(i), m.order(i));
        }
        return good && same("reaches()", x.reaches(), m.reaches());
    }

    private boolean graph() {
        int w = what(4);
        int p = place();
        int s = step();
        int i = random.nextInt(3) == 0 ? some(300) : some(6);
        switch (random.nextInt(5)) {
            case 0: return same("graph(" + w + ")", x.graph(w), m.graph(w));
            case 1: return same("marking(" + i + ", " + p + ")", x.marking(i, p), m.marking(i, p));
            case 2: return same("came(" + i + ", " + w + ")", x.came(i, w), m.came(i, w));
            case 3: return same("live(" + s + ")", x.live(s), m.live(s));
            default: return same("most(" + p + ")", x.most(p), m.most(p));
        }
    }

    private boolean reduced() {
        int w = what(5);
        int i = some(5);
        switch (random.nextInt(4)) {
            case 0: return same("reduce()", x.reduce(), m.reduce());
            case 1: return same("rule(" + i + ", " + w % 4 + ")", x.rule(i, w % 4), m.rule(i, w % 4));
            default: return same("reduced(" + w + ")", x.reduced(w), m.reduced(w));
        }
    }

    private boolean rare() {
        switch (random.nextInt(14)) {
            case 0:
                return layBoth(netText());
            case 1:
            case 2:
                return layBoth(spoilt(netText()));
            case 3: return same("become()", x.become(), m.become());
            case 4: return same("undo()", x.undo() ? 1 : 0, m.undo() ? 1 : 0);
            default: return acts();
        }
    }
}
