import java.math.BigInteger;
import java.util.List;
import java.util.Random;

/** Promises 15 to 20: sums, sum, support, covered, value, bound. */
public final class WeightsTest {
    private static final int NONE = TokenSums.NONE;

    public static void main(String[] args) {
        Due due = new Due("WeightsTest");
        weighted(due);
        several(due);
        bare(due);
        wrong(due);
        bounds(due);
        behindBecome(due);
        dense(due);
        due.close();
    }

    private static void weighted(Due due) {
        TokenSums x = Due.net("place a 3; place b 5; step s takes 2 a gives 3 b; step t takes 3 b gives 2 a;");
        due.is("sums(0)", x.sums(0), 1);
        due.is("sum(0,0,0)", x.sum(0, 0, 0), 3);
        due.is("sum(0,0,1)", x.sum(0, 0, 1), 2);
        due.is("value(0)", x.value(0), 19);
        due.is("bound(0), cut", x.bound(0), 6);
        due.is("bound(1), cut", x.bound(1), 9);
        due.is("sums(1)", x.sums(1), 1);
        due.is("sum(1,0,0)", x.sum(1, 0, 0), 1);
        due.is("sum(1,0,1)", x.sum(1, 0, 1), 1);
        // No divisor in common: twice each step is not least.
        TokenSums y = Due.net("place a; place b; step s takes 2 a gives 2 b; step t takes b gives a;");
        due.is("sum(1,0,0)", y.sum(1, 0, 0), 1);
        due.is("sum(1,0,1)", y.sum(1, 0, 1), 2);
        due.is("sum(0,0,0)", y.sum(0, 0, 0), 1);
        due.is("sum(0,0,1)", y.sum(0, 0, 1), 1);
        x.fire(0);
        due.is("value(0) stays", x.value(0), 19);
        x.set(0, 999);
        x.set(1, 999);
        due.is("value(0) of a great marking", x.value(0), 4995);
    }

    /** a + c, b + d are sums; a + b + .. is not least; e is never changed. */
    private static void several(Due due) {
        TokenSums x = Due.net("place a 1; place b 2; place c 3; place d 4; place e 5;"
                + "step s takes a takes b takes e gives c gives d gives e; step t takes c takes d gives a gives b;");
        int[] all = {0b00101, 0b00110, 0b01001, 0b01010, 0b10000};
        // a+c, b+c, a+d, b+d and e, numbered by their bits.
        due.is("sums(0)", x.sums(0), 5);
        for (int k = 0; k < 5; k++) {
            due.is("support(0," + k + ")", x.support(0, k), all[k]);
        }
        long[] values = {4, 5, 5, 6, 5};
        for (int k = 0; k < 5; k++) {
            due.is("value(" + k + ")", x.value(k), values[k]);
        }
        due.is("covered(0)", x.covered(0), 31);
        due.is("bound(0), the least", x.bound(0), 4);
        due.is("bound(3), the least", x.bound(3), 5);
        due.is("bound(4)", x.bound(4), 5);
        due.is("sum(0,4,4)", x.sum(0, 4, 4), 1);
        due.is("sum(0,4,0)", x.sum(0, 4, 0), 0);
    }

    private static void bare(Due due) {
        TokenSums x = Due.net("place a 2; place b;");
        due.is("sums(0) without steps", x.sums(0), 2);
        due.is("support(0,0)", x.support(0, 0), 1);
        due.is("support(0,1)", x.support(0, 1), 2);
        due.is("bound(0)", x.bound(0), 2);
        due.is("bound(1)", x.bound(1), 0);
        due.is("sums(1)", x.sums(1), 0);
        TokenSums y = Due.net("step s; step t;");
        due.is("sums(1) without places", y.sums(1), 2);
        due.is("covered(1)", y.covered(1), 3);
        due.is("sums(0)", y.sums(0), 0);
        due.is("covered(0)", y.covered(0), 0);
        TokenSums z = Due.net("place a; step s gives a;");
        due.is("sums(0) of what grows", z.sums(0), 0);
        due.is("bound(0) of what grows", z.bound(0), NONE);
        due.is("value(0) of what grows", z.value(0), NONE);
        due.is("sums(1) of what grows", z.sums(1), 0);
        // A sum has no number below 0: a - b is none.
        TokenSums w = Due.net("place a; place b; step s gives a gives b;");
        due.is("sums(0) of like places", w.sums(0), 0);
    }

    private static void wrong(Due due) {
        TokenSums x = Due.net("place a 2; place b; step s takes a gives b; step t takes b gives a; step u;");
        due.is("sums(-1)", x.sums(-1), NONE);
        due.is("sums(2)", x.sums(2), NONE);
        due.is("sum(2,0,0)", x.sum(2, 0, 0), NONE);
        due.is("sum(-1,0,0)", x.sum(-1, 0, 0), NONE);
        due.is("sum(0,1,0)", x.sum(0, 1, 0), NONE);
        due.is("sum(0,-1,0)", x.sum(0, -1, 0), NONE);
        due.is("sum(0,0,2)", x.sum(0, 0, 2), NONE);
        due.is("sum(0,0,-1)", x.sum(0, 0, -1), NONE);
        due.is("sum(0,0,10)", x.sum(0, 0, 10), NONE);
        due.is("sum(1,0,2)", x.sum(1, 0, 2), 0);
        due.is("sum(1,0,3)", x.sum(1, 0, 3), NONE);
        due.is("sum(1,1,2)", x.sum(1, 1, 2), 1);
        due.is("sum(0,MAX,0)", x.sum(0, Integer.MAX_VALUE, 0), NONE);
        due.is("covered(2)", x.covered(2), NONE);
        due.is("covered(-1)", x.covered(-1), NONE);
        due.is("value(1)", x.value(1), NONE);
        due.is("value(-1)", x.value(-1), NONE);
        due.is("bound(2)", x.bound(2), NONE);
        due.is("bound(-1)", x.bound(-1), NONE);
        due.noSupport(x, 0, 1);
        due.noSupport(x, 0, -1);
        due.noSupport(x, 1, 2);
        due.noSupport(x, 2, 0);
        due.noSupport(x, -1, 0);
        due.noSupport(new TokenSums(), 0, 0);
    }

    private static void bounds(Due due) {
        TokenSums x = Due.net("place a 1; place b 7; step s takes a takes 2 b; step t gives a gives 2 b;");
        due.is("sums(0): 2a - b has a number below 0", x.sums(0), 0);
        due.is("bound(0)", x.bound(0), NONE);
        TokenSums y = Due.net("place a 1; place b; place c; step s takes a gives 3 b; step t takes 2 b gives c;");
        due.is("sums(0)", y.sums(0), 1);
        due.is("numbers", y.sum(0, 0, 0) * 100 + y.sum(0, 0, 1) * 10 + y.sum(0, 0, 2), 312);
        due.is("value(0)", y.value(0), 3);
        due.is("bound(0)", y.bound(0), 1);
        due.is("bound(1)", y.bound(1), 3);
        due.is("bound(2), cut", y.bound(2), 1);
    }

    private static void behindBecome(Due due) {
        TokenSums x = Due.net("place a 4; place b 1; place c 2; step s takes a gives b; step t takes 2 b gives 3 c;"
                + "step u takes c takes b gives 2 a;");
        int sums = x.sums(0);
        int rows = x.sums(1);
        due.is("become()", x.become(), 1);
        // b, c with t: -2 +3, u: +1 -1 (b gets what a got).
        due.is("sums(0)", x.sums(0), 0);
        due.is("sums(1)", x.sums(1), 0);
        due.is("sum of a gone place", x.sum(0, 0, 0), NONE);
        x.undo();
        due.is("sums(0) undone", x.sums(0), sums);
        due.is("sums(1) undone", x.sums(1), rows);
    }

    /** Nets with many heavy arcs, held against Farkas' way in numbers without end. */
    private static void dense(Due due) {
        Random random = new Random(5);
        for (int turn = 0; turn < 150; turn++) {
            StringBuilder text = new StringBuilder();
            int places = 4 + random.nextInt(7);
            int steps = 2 + random.nextInt(7);
            for (int p = 0; p < places; p++) {
                text.append("place ").append((char) ('a' + p)).append(random.nextInt(100)).append(';');
            }
            int arcs = 2 + random.nextInt(5);
            for (int s = 0; s < steps; s++) {
                text.append("step ").append((char) ('p' + s));
                int used = 0;
                for (int i = 0; i < arcs && text.length() < 880; i++) {
                    int p = random.nextInt(places);
                    if ((used >> p & 1) == 0) {
                        used |= 1 << p;
                        text.append(i % 2 == 0 ? " takes" : " gives").append(1 + random.nextInt(3)).append(' ').append((char) ('a' + p));
                    }
                }
                text.append(';');
            }
            if (text.length() <= 900) {
                same(due, text.toString());
            }
        }
    }

    private static void same(Due due, String text) {
        TokenSums x = Due.net(text);
        Model m = new Model();
        m.net = new Model.Text(text).read();
        due.is("about(7) of " + text, x.about(7), m.rank());
        for (int what = 0; what < 2; what++) {
            List<BigInteger[]> all = m.weights(what);
            due.is("sums(" + what + ") of " + text, x.sums(what), all.size());
            for (int k = 0; k < all.size() && k < x.sums(what); k++) {
                due.is("support(" + what + "," + k + ") of " + text, x.support(what, k), Model.supportOf(all.get(k)));
                for (int i = 0; i < (what == 0 ? x.about(0) : x.about(1)); i++) {
                    due.is("sum(" + what + "," + k + "," + i + ") of " + text, x.sum(what, k, i), all.get(k)[i].longValueExact());
                }
            }
        }
    }
}
