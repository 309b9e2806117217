/** Promises 10 to 14: fire, set, run, can, undo. */
public final class ActsTest {
    private static final int NONE = TokenSums.NONE;

    public static void main(String[] args) {
        Due due = new Due("ActsTest");
        fire(due);
        upperEnd(due);
        set(due);
        run(due);
        undo(due);
        twelve(due);
        due.close();
    }

    private static void fire(Due due) {
        TokenSums x = Due.net("place a 2; place b; step s takes a gives b; step t takes 2 b gives 2 a; step u takes 3 a;");
        due.is("can()", x.can(), 1);
        due.is("fire(1)", x.fire(1), NONE);
        due.is("fire(3)", x.fire(3), NONE);
        due.is("fire(-1)", x.fire(-1), NONE);
        due.is("fire(8)", x.fire(8), NONE);
        due.is("about(5)", x.about(5), 0);
        due.is("fire(0)", x.fire(0), 1);
        due.is("tokens(0)", x.tokens(0), 1);
        due.is("tokens(1)", x.tokens(1), 1);
        due.is("fire(0)", x.fire(0), 2);
        due.is("can()", x.can(), 2);
        due.is("fire(1)", x.fire(1), 1);
        due.is("about(5)", x.about(5), 3);
        // Tokens are taken before they are given: what a step gives can't serve what it takes.
        TokenSums y = Due.net("place a 1; step s takes 2 a gives 3 a;");
        due.is("can() with too few", y.can(), 0);
        due.is("fire(0) with too few", y.fire(0), NONE);
        TokenSums z = Due.net("place a; step s; step t gives a;");
        due.is("a step without arcs", z.fire(0), 3);
        due.is("is an act all the same", z.about(5), 1);
    }

    private static void upperEnd(Due due) {
        TokenSums x = Due.net("place a; place b 1; step s takes a gives 3 a; step t takes 3 a gives 3 a; step u gives b;");
        x.set(0, 997);
        due.is("can() at 997", x.can(), 7);
        due.is("fire(0) to 999", x.fire(0), 6);
        due.is("tokens(0)", x.tokens(0), 999);
        due.is("fire(0) above 999", x.fire(0), NONE);
        due.is("fire(1) at 999", x.fire(1), 6);
        x.set(0, 998);
        due.is("can() at 998", x.can(), 6);
        x.set(1, 999);
        due.is("can() with b at 999", x.can(), 2);
    }

    private static void set(Due due) {
        TokenSums x = Due.net("place a 5; place b;");
        due.is("set(0,5)", x.set(0, 5), NONE);
        due.is("set(0,-1)", x.set(0, -1), NONE);
        due.is("set(0,1000)", x.set(0, 1000), NONE);
        due.is("set(2,1)", x.set(2, 1), NONE);
        due.is("set(-1,1)", x.set(-1, 1), NONE);
        due.is("about(5)", x.about(5), 0);
        due.is("set(0,999)", x.set(0, 999), 5);
        due.is("set(0,0)", x.set(0, 0), 999);
        due.is("set(0,1)", x.set(0, 1), 0);
        due.is("tokens(0)", x.tokens(0), 1);
        due.is("about(5)", x.about(5), 3);
    }

    private static void run(Due due) {
        TokenSums x = Due.net("place a; place b; place c; step s gives a; step t gives b; step u gives c;");
        due.is("run(1,0)", x.run(1, 0), NONE);
        due.is("run(1,201)", x.run(1, 201), NONE);
        due.is("run(1,-5)", x.run(1, -5), NONE);
        due.is("about(5)", x.about(5), 0);
        int seed = 77;
        int[] want = new int[3];
        for (int i = 0; i < 200; i++) {
            seed = seed * 1103515245 + 12345;
            want[(seed >>> 16) % 3]++;
        }
        due.is("run(77,200)", x.run(77, 200), 200);
        for (int p = 0; p < 3; p++) {
            due.is("tokens(" + p + ")", x.tokens(p), want[p]);
        }
        due.is("one act", x.about(5), 1);
        due.is("undo()", x.undo(), true);
        due.is("about(4)", x.about(4), 0);

        // Which of those that can, by number: the first that can is number 0, whatever its own is.
        TokenSums y = Due.net("place a 3; place b; step s takes b; step t takes a gives b; step u takes a;");
        int first = -5 * 1103515245 + 12345;
        due.is("run(-5,1)", y.run(-5, 1), 1);
        due.is("tokens(1)", y.tokens(1), (first >>> 16) % 2 == 0 ? 1 : 0);
        y.undo();
        int steps = y.run(9, 200);
        due.is("it ends where none can", steps >= 3 && steps <= 6, true);
        due.is("can()", y.can(), 0);
        due.is("a run of none", y.run(9, 200), 0);
        due.is("is an act", y.about(5), 2);
        due.is("undo()", y.undo(), true);
        due.is("undo()", y.undo(), true);
        due.is("undo()", y.undo(), false);
        due.is("tokens(0)", y.tokens(0), 3);
        due.is("without steps", Due.net("place a 3;").run(1, 1), NONE);
        due.is("without a net", new TokenSums().run(1, 1), NONE);
        TokenSums z = Due.net("place a 3; place b; step s takes a gives b;");
        due.is("become()", z.become() > 0, true);
        due.is("steps left", z.about(1), 0);
        due.is("run without steps that are left", z.run(1, 1), NONE);
    }

    private static void undo(Due due) {
        TokenSums x = Due.net("place a 2; place b; step s takes a gives b;");
        due.is("undo() of none", x.undo(), false);
        x.aim(1, 9);
        x.fire(0);
        x.set(0, 40);
        x.run(5, 3);
        due.is("tokens(0)", x.tokens(0), 37);
        due.is("become()", x.become(), 2);
        due.is("about(2)", x.about(2), 0);
        due.is("about(5)", x.about(5), 4);
        due.is("undo()", x.undo(), true);
        due.is("about(2)", x.about(2), 3);
        due.is("about(3)", x.about(3), 1);
        due.is("tokens(0)", x.tokens(0), 37);
        due.is("tokens(1)", x.tokens(1), 4);
        due.is("undo()", x.undo(), true);
        due.is("tokens(0)", x.tokens(0), 40);
        due.is("undo()", x.undo(), true);
        due.is("tokens(0)", x.tokens(0), 1);
        due.is("undo()", x.undo(), true);
        due.is("tokens(0)", x.tokens(0), 2);
        due.is("tokens(1)", x.tokens(1), 0);
        due.is("undo()", x.undo(), false);
        due.is("aim is no act", x.aim(1, 9), 9);
    }

    private static void twelve(Due due) {
        TokenSums x = Due.net("place a; step s gives a;");
        for (int i = 1; i <= 30; i++) {
            x.fire(0);
            due.is("about(5) behind " + i, x.about(5), Math.min(i, 12));
        }
        for (int i = 1; i <= 12; i++) {
            due.is("undo() " + i, x.undo(), true);
            due.is("tokens(0) behind it", x.tokens(0), 30 - i);
        }
        due.is("a 13th undo()", x.undo(), false);
        due.is("tokens(0)", x.tokens(0), 18);
        x.fire(0);
        x.undo();
        due.is("tokens(0)", x.tokens(0), 18);
        due.is("about(5)", x.about(5), 0);
    }
}
