/** The edges of promises 15 to 20 and of SUM, ROW, SUPPORT and VALUE, a sentence each. */
public final class WeightEdgesTest {
    private static final int NONE = TokenSums.NONE;
    private static final int[] FAR = {-1, -2, 32, 64, Integer.MAX_VALUE, Integer.MIN_VALUE};

    public static void main(String[] args) {
        Due due = new Due("WeightEdgesTest");
        notAllZero(due);
        zeroOrMore(due);
        eachStepByNothing(due);
        leastSupports(due);
        noCommonDivisor(due);
        rowsLikewise(due);
        numberedByBits(due);
        greatNumbers(due);
        anotherWhat(due);
        sumOfNone(due);
        supportOfNone(due);
        coveredBits(due);
        valuesNow(due);
        valueOfNone(due);
        boundIsCut(due);
        boundIsTheLeast(due);
        boundOfNone(due);
        goneOnes(due);
        due.close();
    }

    /** One SUM, 3 a + 2 b, and a ROW, s + t, beside the ROW u. */
    private static TokenSums pair() {
        TokenSums x = Due.net("place a 3;place b 5;step s takes 2 a gives 3 b;step t takes 3 b gives 2 a;step u;");
        x.fire(0);
        return x;
    }

    private static void weights(Due due, TokenSums x, int what, int[]... want) {
        due.is("sums(" + what + ")", x.sums(what), want.length);
        for (int k = 0; k < want.length; k++) {
            int bits = 0;
            for (int i = 0; i < want[k].length; i++) {
                bits |= want[k][i] > 0 ? 1 << i : 0;
                due.is("sum(" + what + ", " + k + ", " + i + ")", x.sum(what, k, i), want[k][i]);
            }
            due.is("support(" + what + ", " + k + ")", Due.support(x, what, k), bits);
        }
    }

    private static int[] w(int... numbers) {
        return numbers;
    }

    // "A SUM: whole numbers 0 or more, one for each PLACE, not all 0": none without PLACES.
    private static void notAllZero(Due due) {
        weights(due, new TokenSums(), 0);
        weights(due, new TokenSums(), 1);
        weights(due, Due.net("step s;"), 0);
        weights(due, Due.net("place a;"), 1);
        weights(due, Due.net("place a;"), 0, w(1));
        weights(due, Due.net("step s;"), 1, w(1));
        weights(due, Due.net("place a;step s gives a;"), 0);
        weights(due, Due.net("place a;step s gives a;"), 1);
    }

    // "whole numbers 0 or more": what is balanced only by a number below 0 is none.
    private static void zeroOrMore(Due due) {
        weights(due, Due.net("place a;place b;step s gives a gives b;"), 0);
        weights(due, Due.net("place a;place b;step s takes a gives b;"), 0, w(1, 1));
        weights(due, Due.net("place a;place b;place c;step s takes a gives b gives c;"), 0, w(1, 1, 0), w(1, 0, 1));
        // a - b + c is balanced, and so are a + d and b + d + .. : only those above 0 count.
        weights(due, Due.net("place a;place b;place d;step s gives a gives b takes d;"), 0, w(1, 0, 1), w(0, 1, 1));
        weights(due, Due.net("place a;step s gives a;step t gives 2 a;"), 1);
        weights(due, Due.net("place a;step s gives a;step t takes 2 a;"), 1, w(2, 1));
    }

    // "so that each STEP changes them, times CHANGES, together by 0": one that does not spoils it.
    private static void eachStepByNothing(Due due) {
        String ab = "place a;place b;step s takes a gives b;";
        weights(due, Due.net(ab + "step t takes b gives a;"), 0, w(1, 1));
        weights(due, Due.net(ab + "step t takes 2 b gives a;"), 0);
        weights(due, Due.net(ab + "step t takes 3 b gives 3 a;"), 0, w(1, 1));
        weights(due, Due.net(ab + "step t takes 3 b gives 2 a;"), 0);
        weights(due, Due.net(ab + "step p;step q;step r;step t;step u;step v;step w gives a;"), 0);
        weights(due, Due.net(ab + "step p;step q;step r;step t;step u;step v;step w takes 3 a gives 3 a;"), 0, w(1, 1));
    }

    // "its SUPPORT .. has no SUPPORT of another SUM within it but itself".
    private static void leastSupports(Due due) {
        // a + b and c + d are least, a + b + c + d is not.
        weights(due, Due.net("place a;place b;place c;place d;step s takes a gives b;step t takes c gives d;"), 0,
                w(1, 1, 0, 0), w(0, 0, 1, 1));
        // b alone lies within a + b.
        weights(due, Due.net("place a;place b;step s takes a gives a;"), 0, w(1, 0), w(0, 1));
        weights(due, Due.net("step s;step t;"), 1, w(1, 0), w(0, 1));
        // Two ways round with a in common: a, b and a, c; b and c are not both.
        weights(due, Due.net("place a;place b;place c;step s takes a gives b;step t takes b gives a;step u takes a gives c;step v takes c gives a;"),
                1, w(1, 1, 0, 0), w(0, 0, 1, 1));
    }

    // "the numbers have no divisor above 1 in common".
    private static void noCommonDivisor(Due due) {
        weights(due, Due.net("place a;place b;step s takes 2 a gives 2 b;"), 0, w(1, 1));
        weights(due, Due.net("place a;place b;step s takes 3 a gives 3 b;"), 0, w(1, 1));
        weights(due, Due.net("place a;place b;step s takes 3 a gives 2 b;"), 0, w(2, 3));
        weights(due, Due.net("place a;place b;step s takes a gives 3 b;"), 0, w(3, 1));
        weights(due, Due.net("place a;place b;place c;step s takes 2 a gives b;step t takes 2 b gives c;"), 0, w(1, 2, 4));
        weights(due, Due.net("place a;step s takes 2 a;step t gives 2 a;"), 1, w(1, 1));
        weights(due, Due.net("place a;step s takes 3 a;step t gives 2 a;"), 1, w(2, 3));
    }

    // "A ROW: likewise whole numbers for STEPS, by which, so often each, no PLACE is changed."
    private static void rowsLikewise(Due due) {
        weights(due, Due.net("place a;place b;step s takes a gives b;step t takes b gives a;"), 1, w(1, 1));
        weights(due, Due.net("place a;place b;step s takes a gives 2 b;step t takes b gives a;"), 1);
        weights(due, Due.net("place a;place b;place c;step s takes a gives 2 b;step t takes b gives a;step u takes a;"), 1, w(1, 2, 1));
        weights(due, Due.net("place a;step s takes 2 a gives 2 a;step t gives a;"), 1, w(1, 0));
        // The last of ten places spoils it.
        String ten = "place a;place b;place c;place d;place e;place f;place g;place h;place i;place j;";
        weights(due, Due.net(ten + "step s takes a gives b;step t takes b gives a;"), 1, w(1, 1));
        weights(due, Due.net(ten + "step s takes a gives b;step t takes b gives a gives j;"), 1);
    }

    // "SUMS, ROWS are numbered by their SUPPORTS as bits (bit k: the k-th), the least first."
    private static void numberedByBits(Due due) {
        weights(due, Due.net("place a;place b;place c;step s takes c gives a gives b;"), 0, w(1, 0, 1), w(0, 1, 1));
        weights(due, Due.net("place a;place b;place c;step s takes a gives a;"), 0, w(1, 0, 0), w(0, 1, 0), w(0, 0, 1));
        // a + j (bits 0, 9) comes behind b + c .. + i, though its least bit is less.
        TokenSums x = Due.net("place a;place b;place c;place d;place e;place f;place g;place h;place i;place j;"
                + "step s takes a gives j;step t takes b gives c;step u takes c gives d;step v takes d gives e;"
                + "step w takes e gives f;step p takes f gives g;step q takes g gives h;step r takes h gives i;");
        weights(due, x, 0, w(0, 1, 1, 1, 1, 1, 1, 1, 1, 0), w(1, 0, 0, 0, 0, 0, 0, 0, 0, 1));
        // Four ways there, four ways back: sixteen pairs, by their bits.
        TokenSums y = Due.net("place a;place b;step p takes a gives b;step q takes a gives b;step r takes a gives b;step s takes a gives b;"
                + "step t takes b gives a;step u takes b gives a;step v takes b gives a;step w takes b gives a;");
        due.is("sums(1)", y.sums(1), 16);
        for (int k = 0; k < 16; k++) {
            due.is("support(1, " + k + ")", Due.support(y, 1, k), 16 << k / 4 | 1 << k % 4);
        }
        // One step with five on each side: 25 pairs.
        TokenSums z = Due.net("place a;place b;place c;place d;place e;place f;place g;place h;place i;place j;"
                + "step s takes a takes b takes c takes d takes e gives f gives g gives h gives i gives j;");
        due.is("sums(0)", z.sums(0), 25);
        for (int k = 0; k < 25; k++) {
            due.is("support(0, " + k + ")", Due.support(z, 0, k), 32 << k / 5 | 1 << k % 5);
        }
        due.is("covered(0)", z.covered(0), 1023);
    }

    /** Numbers grow by threes along a line of nine places. */
    private static void greatNumbers(Due due) {
        StringBuilder up = new StringBuilder();
        StringBuilder mixed = new StringBuilder();
        for (int i = 0; i < 9; i++) {
            up.append("place ").append((char) ('a' + i)).append(';');
        }
        mixed.append(up);
        for (int i = 0; i < 8; i++) {
            String step = "step " + (char) ('p' + i) + " takes ";
            up.append(step).append((char) ('a' + i)).append(" gives 3 ").append((char) ('b' + i)).append(';');
            mixed.append(step).append("2 ").append((char) ('a' + i)).append(" gives 3 ").append((char) ('b' + i)).append(';');
        }
        TokenSums x = Due.net(up.toString());
        weights(due, x, 0, w(6561, 2187, 729, 243, 81, 27, 9, 3, 1));
        TokenSums y = Due.net(mixed.toString());
        weights(due, y, 0, w(6561, 4374, 2916, 1944, 1296, 864, 576, 384, 256));
        for (int p = 0; p < 9; p++) {
            x.set(p, 999);
        }
        due.is("value(0)", x.value(0), 999L * 9841);
        due.is("bound(8)", x.bound(8), 9831159);
        due.is("bound(0), cut", x.bound(0), 1498);
    }

    // Promises 15, 16, 18: "NONE for another what."
    private static void anotherWhat(Due due) {
        due.nothing("sums(2)", WeightEdgesTest::pair, t -> t.sums(2));
        due.nothing("sum(2, 0, 0)", WeightEdgesTest::pair, t -> t.sum(2, 0, 0));
        due.nothing("covered(2)", WeightEdgesTest::pair, t -> t.covered(2));
        for (int what : FAR) {
            due.nothing("sums(" + what + ")", WeightEdgesTest::pair, t -> t.sums(what));
            due.nothing("sum(" + what + ", 0, 0)", WeightEdgesTest::pair, t -> t.sum(what, 0, 0));
            due.nothing("covered(" + what + ")", WeightEdgesTest::pair, t -> t.covered(what));
        }
    }

    // Promise 16: "NONE if there is none such".
    private static void sumOfNone(Due due) {
        TokenSums x = pair();
        due.is("the last place", x.sum(0, 0, 1), 2);
        due.is("the last row, the last step", x.sum(1, 1, 2), 1);
        due.nothing("sum(0, 1, 0)", WeightEdgesTest::pair, t -> t.sum(0, 1, 0));
        due.nothing("sum(1, 2, 0)", WeightEdgesTest::pair, t -> t.sum(1, 2, 0));
        due.nothing("sum(0, 0, 2)", WeightEdgesTest::pair, t -> t.sum(0, 0, 2));
        due.nothing("sum(1, 0, 3)", WeightEdgesTest::pair, t -> t.sum(1, 0, 3));
        due.nothing("sum(1, 0, 8)", WeightEdgesTest::pair, t -> t.sum(1, 0, 8));
        due.nothing("sum(0, 0, 10)", WeightEdgesTest::pair, t -> t.sum(0, 0, 10));
        for (int n : FAR) {
            due.nothing("sum(0, " + n + ", 0)", WeightEdgesTest::pair, t -> t.sum(0, n, 0));
            due.nothing("sum(1, " + n + ", 0)", WeightEdgesTest::pair, t -> t.sum(1, n, 0));
            due.nothing("sum(0, 0, " + n + ")", WeightEdgesTest::pair, t -> t.sum(0, 0, n));
            due.nothing("sum(1, 0, " + n + ")", WeightEdgesTest::pair, t -> t.sum(1, 0, n));
        }
    }

    // Promise 17: "NoSuchElementException: there is none such (or another what)."
    private static void supportOfNone(Due due) {
        due.is("support(0, 0)", Due.support(pair(), 0, 0), 3);
        due.is("support(1, 0)", Due.support(pair(), 1, 0), 3);
        due.is("support(1, 1)", Due.support(pair(), 1, 1), 4);
        due.nothing("support(0, 1)", WeightEdgesTest::pair, t -> Due.support(t, 0, 1), Due.THROWN);
        due.nothing("support(1, 2)", WeightEdgesTest::pair, t -> Due.support(t, 1, 2), Due.THROWN);
        due.nothing("support(2, 0)", WeightEdgesTest::pair, t -> Due.support(t, 2, 0), Due.THROWN);
        for (int n : FAR) {
            due.nothing("support(0, " + n + ")", WeightEdgesTest::pair, t -> Due.support(t, 0, n), Due.THROWN);
            due.nothing("support(1, " + n + ")", WeightEdgesTest::pair, t -> Due.support(t, 1, n), Due.THROWN);
            due.nothing("support(" + n + ", 0)", WeightEdgesTest::pair, t -> Due.support(t, n, 0), Due.THROWN);
        }
    }

    // Promise 18: "PLACES, STEPS that lie in some SUPPORT, as bits".
    private static void coveredBits(Due due) {
        due.is("none", Due.net("place a;step s gives a;").covered(0), 0);
        due.is("none", Due.net("place a;step s gives a;").covered(1), 0);
        due.is("all", pair().covered(0), 3);
        due.is("all", pair().covered(1), 7);
        TokenSums x = Due.net("place a;place b;place c;step s takes a gives c;step t gives b;step u takes c gives a;");
        due.is("some places", x.covered(0), 5);
        due.is("some steps", x.covered(1), 5);
    }

    // Terms: "VALUE of a SUM: its numbers times TOKENS, together"; promise 19: "now".
    private static void valuesNow(Due due) {
        TokenSums x = Due.net("place a 3;place b 5;step s takes 2 a gives 3 b;");
        due.is("value(0)", x.value(0), 19);
        x.fire(0);
        due.is("value(0) behind a step", x.value(0), 19);
        x.set(0, 0);
        due.is("value(0)", x.value(0), 16);
        x.set(1, 0);
        due.is("value(0) of nothing", x.value(0), 0);
        x.set(0, 999);
        x.set(1, 999);
        due.is("value(0) of the most", x.value(0), 4995);
        x.undo();
        due.is("value(0) undone", x.value(0), 2997);
        TokenSums y = Due.net("place a 2;place b 4;place c 3;step s takes a gives b gives c;");
        due.is("value(0) of two", y.value(0), 6);
        due.is("value(1) of two", y.value(1), 5);
        due.is("value(2) of two", y.value(2), NONE);
    }

    // Promise 19: "NONE if there is none such."
    private static void valueOfNone(Due due) {
        due.nothing("value(1)", WeightEdgesTest::pair, t -> t.value(1));
        for (int n : FAR) {
            due.nothing("value(" + n + ")", WeightEdgesTest::pair, t -> t.value(n));
        }
        due.nothing("value(0) without sums", () -> Due.net("place a 5;step s gives a;"), t -> t.value(0));
    }

    // Promise 20: "VALUE by its number there (cut)".
    private static void boundIsCut(Due due) {
        TokenSums x = Due.net("place a;place b;step s takes a gives 3 b;");
        for (int n = 0; n <= 9; n++) {
            x.set(1, n);
            due.is("bound(0) of " + n, x.bound(0), n / 3);
            due.is("bound(1) of " + n, x.bound(1), n);
        }
        x.set(1, 999);
        due.is("bound(0) of 999", x.bound(0), 333);
        x.set(0, 999);
        due.is("bound(1)", x.bound(1), 3996);
        due.is("bound(0)", x.bound(0), 1332);
    }

    // Promise 20: "of those with it the least".
    private static void boundIsTheLeast(Due due) {
        TokenSums x = Due.net("place a 2;place b 4;place c 3;step s takes a gives b gives c;");
        // a + b is 6, a + c is 5.
        due.is("bound(0)", x.bound(0), 5);
        due.is("bound(1)", x.bound(1), 6);
        due.is("bound(2)", x.bound(2), 5);
        x.set(1, 3);
        due.is("bound(0), both alike", x.bound(0), 5);
        x.set(1, 2);
        due.is("bound(0)", x.bound(0), 4);
        x.set(0, 0);
        x.set(1, 0);
        due.is("bound(0) of nothing", x.bound(0), 0);
        due.is("bound(1) of nothing", x.bound(1), 0);
        due.is("bound(2)", x.bound(2), 3);
    }

    // Promise 20: "NONE if none has it, or there is none such."
    private static void boundOfNone(Due due) {
        TokenSums x = Due.net("place a 1;place b 1;place c 1;step s takes a gives c;step t gives b;");
        due.is("bound(0)", x.bound(0), 2);
        due.is("bound(1): none has it", x.bound(1), NONE);
        due.is("bound(2)", x.bound(2), 2);
        due.nothing("bound(2)", WeightEdgesTest::pair, t -> t.bound(2));
        due.nothing("bound(10)", WeightEdgesTest::pair, t -> t.bound(10));
        for (int n : FAR) {
            due.nothing("bound(" + n + ")", WeightEdgesTest::pair, t -> t.bound(n));
        }
    }

    /** Behind become() a PLACE, a STEP that is gone has no number, and is in no SUPPORT. */
    private static void goneOnes(Due due) {
        TokenSums x = Due.net("place x 2;place y;place z 1;step v takes 2 x gives 3 y;step w takes 3 y gives 2 x;step t;");
        weights(due, x, 0, w(3, 2, 0), w(0, 0, 1));
        weights(due, x, 1, w(1, 1, 0), w(0, 0, 1));
        due.is("become()", x.become(), 2);
        weights(due, x, 0, w(3, 2));
        weights(due, x, 1, w(1, 1));
        due.is("sum of a place that is gone", x.sum(0, 0, 2), NONE);
        due.is("sum of a step that is gone", x.sum(1, 0, 2), NONE);
        due.is("bound of a place that is gone", x.bound(2), NONE);
        due.is("covered(0)", x.covered(0), 3);
        due.is("covered(1)", x.covered(1), 3);
        x.undo();
        weights(due, x, 0, w(3, 2, 0), w(0, 0, 1));
        weights(due, x, 1, w(1, 1, 0), w(0, 0, 1));
    }
}
