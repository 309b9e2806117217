/** Promises 27 to 30: aim, counts, order, reaches. */
public final class AimTest {
    private static final int NONE = TokenSums.NONE;

    public static void main(String[] args) {
        Due due = new Due("AimTest");
        aim(due);
        fewest(due);
        twelve(due);
        none(due);
        order(due);
        noOrder(due);
        reaches(due);
        behindActs(due);
        wide(due);
        due.close();
    }

    private static void aim(Due due) {
        TokenSums x = Due.net("place a 1; place b;");
        due.is("aim(0,0)", x.aim(0, 0), 0);
        due.is("aim(0,999)", x.aim(0, 999), 0);
        due.is("aim(0,999) again", x.aim(0, 999), 999);
        due.is("aim(0,1000)", x.aim(0, 1000), NONE);
        due.is("aim(0,-1)", x.aim(0, -1), NONE);
        due.is("aim(2,1)", x.aim(2, 1), NONE);
        due.is("aim(-1,1)", x.aim(-1, 1), NONE);
        due.is("aim(0,3)", x.aim(0, 3), 999);
        due.is("it is no act", x.about(5), 0);
    }

    private static void counts(Due due, TokenSums x, int... want) {
        int all = 0;
        for (int s = 0; s < want.length; s++) {
            all += want[s];
            due.is("counts(" + s + ")", x.counts(s), want[s]);
        }
        due.is("counts(-1)", x.counts(-1), all);
        due.is("counts behind the last", x.counts(want.length), NONE);
        due.is("counts(-2)", x.counts(-2), NONE);
    }

    private static void fewest(Due due) {
        TokenSums x = Due.net("place a; step s gives a; step t gives a;");
        x.aim(0, 2);
        counts(due, x, 0, 2);
        TokenSums y = Due.net("place a; step s gives a; step t gives 2 a; step u gives 3 a;");
        y.aim(0, 3);
        counts(due, y, 0, 0, 1);
        y.aim(0, 4);
        // Two in all: 2 + 2 (0,2,0) comes ahead of 1 + 3 (1,0,1).
        counts(due, y, 0, 2, 0);
        y.aim(0, 7);
        counts(due, y, 0, 2, 1);
        y.aim(0, 0);
        counts(due, y, 0, 0, 0);
        TokenSums z = Due.net("place a 5; place b; step s; step t takes a gives b; step u takes b gives a;");
        z.aim(0, 3);
        z.aim(1, 2);
        counts(due, z, 0, 2, 0);
        due.is("order(0)", z.order(0), 1);
        due.is("order(1)", z.order(1), 1);
        due.is("order(2)", z.order(2), NONE);
    }

    private static void twelve(Due due) {
        TokenSums x = Due.net("place a; step s gives a; step t gives a takes a;");
        x.aim(0, 12);
        counts(due, x, 12, 0);
        for (int i = 0; i < 12; i++) {
            due.is("order(" + i + ")", x.order(i), 0);
        }
        due.is("order(12)", x.order(12), NONE);
        x.aim(0, 13);
        due.is("counts(-1) of 13", x.counts(-1), NONE);
        due.is("counts(0) of 13", x.counts(0), NONE);
        due.is("order(0) of 13", x.order(0), NONE);
        due.is("reaches() of 13", x.reaches(), 13);
        TokenSums y = Due.net("place a; step s gives 3 a;");
        y.aim(0, 36);
        counts(due, y, 12);
        y.aim(0, 37);
        due.is("counts(-1) of 37", y.counts(-1), NONE);
        y.aim(0, 39);
        due.is("counts(-1) of 39", y.counts(-1), NONE);
    }

    private static void none(Due due) {
        TokenSums x = Due.net("place a 1; place b; step s takes a gives b;");
        due.is("counts(-1), the sum is another", x.counts(-1), NONE);
        due.is("counts(0)", x.counts(0), NONE);
        due.is("order(0)", x.order(0), NONE);
        due.is("order(-5)", x.order(-5), NONE);
        x.set(0, 0);
        x.set(1, 1);
        x.aim(0, 1);
        due.is("counts(-1), only by undoing", x.counts(-1), NONE);
        TokenSums y = Due.net("place a 1; step s takes 2 a; step t gives 2 a;");
        due.is("counts(-1), only by halves", y.counts(-1), NONE);
        TokenSums z = Due.net("place a;");
        due.is("counts(-1) without steps", z.counts(-1), 0);
        z.aim(0, 1);
        due.is("counts(-1) without steps, elsewhere", z.counts(-1), NONE);
        due.is("counts(-1) of a new object", new TokenSums().counts(-1), 0);
        due.is("order(0) of a new object", new TokenSums().order(0), NONE);
    }

    private static void order(Due due) {
        TokenSums x = Due.net("place a 1; place b; place c; step s takes b gives c; step t takes a gives b;");
        x.aim(2, 1);
        counts(due, x, 1, 1);
        due.is("order(0)", x.order(0), 1);
        due.is("order(1)", x.order(1), 0);
        due.is("order(-1)", x.order(-1), NONE);
        due.is("order(2)", x.order(2), NONE);
        due.is("order(MAX)", x.order(Integer.MAX_VALUE), NONE);
        // At 999 what gives has to wait.
        TokenSums y = Due.net("place a; place b; step s gives 2 a gives b; step t takes 3 a;");
        y.set(0, 999);
        y.aim(0, 998);
        y.aim(1, 1);
        counts(due, y, 1, 1);
        due.is("order(0) at 999", y.order(0), 1);
        due.is("order(1) at 999", y.order(1), 0);
        // The least step first may lead nowhere: s takes the key that t needs, u brings one back.
        TokenSums z = Due.net("place k 1; place m; place n; step s takes k gives m; step t takes k gives k gives n;");
        z.aim(1, 1);
        z.aim(2, 1);
        counts(due, z, 1, 1);
        due.is("order(0), not the least", z.order(0), 1);
        due.is("order(1)", z.order(1), 0);
    }

    private static void noOrder(Due due) {
        TokenSums x = Due.net("place k; place n; step s takes k gives k gives n;");
        x.aim(1, 1);
        counts(due, x, 1);
        due.is("order(0)", x.order(0), -2);
        due.is("order(5)", x.order(5), -2);
        due.is("order(-1)", x.order(-1), -2);
        due.is("order(MIN)", x.order(Integer.MIN_VALUE), -2);
        due.is("reaches()", x.reaches(), NONE);
        x.set(0, 1);
        due.is("counts(-1), k is not aimed at", x.counts(-1), NONE);
        x.aim(0, 1);
        due.is("order(0) with k", x.order(0), 0);
        // Two ways to the same end that leads nowhere.
        TokenSums z = Due.net("place k; place a; place b; place c; step s gives a; step t gives b; step u takes k gives k gives c;");
        z.aim(1, 2);
        z.aim(2, 2);
        z.aim(3, 1);
        counts(due, z, 2, 2, 1);
        due.is("order(0), by any way", z.order(0), -2);
        // Other, longer counts would have an order: it is of COUNTS alone that order tells.
        TokenSums y = Due.net("place a; place b; step s takes a gives a gives b; step t gives a; step u takes a;");
        y.aim(1, 1);
        counts(due, y, 1, 0, 0);
        due.is("order(0), though t s u would do", y.order(0), -2);
        due.is("reaches() is longer", y.reaches(), 3);
    }

    private static void reaches(Due due) {
        TokenSums x = Due.net("place a 1; place b; place c; step s takes a gives b; step t takes b gives c; step u takes a gives c;");
        due.is("reaches()", x.reaches(), NONE);
        x.aim(2, 1);
        due.is("reaches() by the shortest", x.reaches(), 1);
        x.aim(2, 0);
        x.aim(1, 1);
        due.is("reaches()", x.reaches(), 1);
        x.aim(1, 0);
        x.aim(0, 1);
        due.is("reaches() the present one", x.reaches(), 0);
        TokenSums y = Due.net("place a; step s gives a;");
        y.aim(0, 299);
        due.is("reaches() the last", y.reaches(), 299);
        y.aim(0, 300);
        due.is("reaches() one too far", y.reaches(), -2);
        y.set(0, 700);
        due.is("reaches() below, not full", y.reaches(), NONE);
        y.aim(0, 999);
        due.is("reaches() the upper end", y.reaches(), 299);
        due.is("graph(1)", y.graph(1), 0);
    }

    private static void behindActs(Due due) {
        TokenSums x = Due.net("place a 3; place b; step s takes a gives b; step t takes b gives a;");
        x.aim(0, 1);
        x.aim(1, 2);
        counts(due, x, 2, 0);
        x.fire(0);
        counts(due, x, 1, 0);
        x.set(0, 0);
        x.set(1, 3);
        counts(due, x, 0, 1);
        due.is("order(0)", x.order(0), 1);
        x.undo();
        x.undo();
        counts(due, x, 1, 0);
        x.undo();
        counts(due, x, 2, 0);
        due.is("order(1)", x.order(1), 0);
        // Rule 6 joins a to b, rule 4 takes t away (it then moves b to b), rule 3 takes b away.
        due.is("become()", x.become() > 0, true);
        due.is("aim of what is gone", x.aim(0, 5), NONE);
        due.is("counts(-1): nothing is left to aim at", x.counts(-1), 0);
        due.is("reaches()", x.reaches(), 0);
        x.undo();
        due.is("aim stayed", x.aim(0, 1), 1);
        counts(due, x, 2, 0);
    }

    /** Eight steps that change nothing beside one that does, and aims that can't be: it must end soon. */
    private static void wide(Due due) {
        TokenSums x = Due.net("place a; step p gives 2 a; step q takes 2 a; step r gives 2 a; step s takes 2 a;"
                + "step t gives 2 a; step u takes 2 a; step v gives 2 a; step w takes 2 a;");
        for (int n = 1; n < 100; n += 2) {
            x.aim(0, n);
            due.is("counts(-1) of an odd aim", x.counts(-1), NONE);
        }
        x.aim(0, 24);
        counts(due, x, 0, 0, 0, 0, 0, 0, 12, 0);
        TokenSums y = Due.net("place a; step p gives a; step q gives a; step r gives a; step s gives a; step t gives a;"
                + "step u gives a; step v gives a; step w gives a;");
        y.aim(0, 12);
        counts(due, y, 0, 0, 0, 0, 0, 0, 0, 12);
    }
}
