/** The edges of promises 10 to 14 and of CAN, RUN, ACTS and UNDO, a sentence each. */
public final class ActEdgesTest {
    private static final int NONE = TokenSums.NONE;
    private static final int[] FAR = {-1, -2, 32, 64, Integer.MAX_VALUE, Integer.MIN_VALUE};

    public static void main(String[] args) {
        Due due = new Due("ActEdgesTest");
        whatItTakes(due);
        notMoreThan999(due);
        loseThenGet(due);
        fireRefused(due);
        fireAnswersThen(due);
        setFrom0To999(due);
        setRefused(due);
        runFrom1To200(due);
        runRefused(due);
        runDraws(due);
        runEnds(due);
        canBits(due);
        undoRefused(due);
        undoEachAct(due);
        twelveAreKept(due);
        refusedCallsTakeNoAct(due);
        due.close();
    }

    private static TokenSums ring() {
        TokenSums x = Due.net("place a 3;place b;step s takes a gives b;step t takes 2 b gives 2 a;");
        x.aim(0, 1);
        x.fire(0);
        x.set(1, 2);
        return x;
    }

    /** The same with as many acts as are kept, and more behind them. */
    private static TokenSums ringOfTwelve() {
        TokenSums x = ring();
        for (int n = 10; n < 23; n++) {
            x.set(0, n);
        }
        return x;
    }

    // Terms: "A STEP CAN be done, if each PLACE has what it takes".
    private static void whatItTakes(Due due) {
        TokenSums x = Due.net("place a 9;step p takes a;step q takes 2 a;step r takes 3 a;step s;");
        int[] can = {8, 9, 11, 15, 15};
        for (int n = 0; n < can.length; n++) {
            x.set(0, n);
            due.is("can() with " + n, x.can(), can[n]);
        }
        TokenSums y = Due.net("place a 2;place b 3;place c 1;step s takes 2 a takes 3 b takes c;");
        due.is("can() with all", y.can(), 1);
        for (int p = 0; p < 3; p++) {
            y.set(p, y.tokens(p) - 1);
            due.is("can() without one in " + p, y.can(), 0);
            y.undo();
            due.is("can() with it", y.can(), 1);
        }
        // The tenth place counts as well.
        TokenSums z = Due.net("place a;place b;place c;place d;place e;place f;place g;place h;place i;place j;step s takes j;");
        due.is("can() with none in the tenth", z.can(), 0);
        z.set(9, 1);
        due.is("can() with one in the tenth", z.can(), 1);
    }

    // Terms: "(and none would have more than 999 then)".
    private static void notMoreThan999(Due due) {
        TokenSums x = Due.net("place a;step p gives a;step q gives 2 a;step r gives 3 a;step s takes a gives 2 a;step t takes 3 a gives 3 a;");
        int[] can = {0b11111, 0b11111, 0b11011, 0b11001, 0b10000};
        for (int i = 0; i < can.length; i++) {
            x.set(0, 995 + i);
            due.is("can() at " + (995 + i), x.can(), can[i]);
        }
        x.set(0, 998);
        due.is("fire(0) at 998", x.fire(0), 0b10000);
        due.is("tokens(0)", x.tokens(0), 999);
        due.is("fire(0) at 999", x.fire(0), NONE);
        due.is("fire(4) at 999", x.fire(4), 0b10000);
        TokenSums y = Due.net("place a;place b;place c;place d;place e;place f;place g;place h;place i;place j;step s gives a gives j;");
        y.set(9, 999);
        due.is("can() with the tenth at 999", y.can(), 0);
        y.set(9, 998);
        due.is("can() with the tenth at 998", y.can(), 1);
        y.set(0, 999);
        due.is("can() with the first at 999", y.can(), 0);
    }

    // Terms: "PLACES lose that, then get what it gives": what it gives can't serve what it takes.
    private static void loseThenGet(Due due) {
        TokenSums x = Due.net("place a 1;place b 5;step s takes 2 a gives 3 a takes b;");
        due.is("can() with 1", x.can(), 0);
        x.set(0, 2);
        due.is("fire(0) with 2", x.fire(0), 1);
        due.is("tokens(0)", x.tokens(0), 3);
        due.is("tokens(1)", x.tokens(1), 4);
        TokenSums y = Due.net("place a 3;step s takes 3 a;");
        due.is("fire(0) to none", y.fire(0), 0);
        due.is("tokens(0)", y.tokens(0), 0);
    }

    // Promise 10: "NONE, doing nothing, if there is none such, or it CAN not."
    private static void fireRefused(Due due) {
        for (int n : FAR) {
            due.nothing("fire(" + n + ")", ActEdgesTest::ring, t -> t.fire(n));
        }
        due.nothing("fire(2)", ActEdgesTest::ring, t -> t.fire(2));
        due.nothing("fire(8)", ActEdgesTest::ring, t -> t.fire(8));
        due.nothing("fire(1) with too few", () -> {
            TokenSums x = ring();
            x.set(1, 1);
            return x;
        }, t -> t.fire(1));
        due.nothing("fire(0) with too many", () -> {
            TokenSums x = ring();
            x.set(1, 999);
            return x;
        }, t -> t.fire(0));
        due.nothing("fire of a step that is gone", () -> {
            TokenSums x = Due.net("place x 2;place y;step v takes 2 x gives 3 y;step w takes 3 y gives 2 x;step t;");
            x.become();
            return x;
        }, t -> t.fire(2));
    }

    // Promise 10: "A STEP is done: STEPS that CAN be done then (bits)".
    private static void fireAnswersThen(Due due) {
        TokenSums x = Due.net("place a 2;place b;step s takes a gives b;step t takes 2 b;step u takes 2 a;");
        due.is("can() ahead", x.can(), 5);
        due.is("fire(0)", x.fire(0), 1);
        due.is("fire(0)", x.fire(0), 2);
        due.is("fire(1)", x.fire(1), 0);
        due.is("about(5)", x.about(5), 3);
        due.is("a step that changes nothing is done, too", Due.net("step s;").fire(0), 1);
    }

    // Promise 11: "A PLACE has n TOKENS (0 .. 999): what it had".
    private static void setFrom0To999(Due due) {
        TokenSums x = ring();
        due.is("set(0, 0)", x.set(0, 0), 2);
        due.is("tokens(0)", x.tokens(0), 0);
        due.is("set(0, 999)", x.set(0, 999), 0);
        due.is("tokens(0)", x.tokens(0), 999);
        due.is("set(0, 998)", x.set(0, 998), 999);
        due.is("set(0, 1)", x.set(0, 1), 998);
        due.is("set(0, 0)", x.set(0, 0), 1);
        due.is("tokens(1) stays", x.tokens(1), 2);
        due.is("about(5)", x.about(5), 7);
    }

    // Promise 11: "NONE, doing nothing, if one can't be, or it has just so many."
    private static void setRefused(Due due) {
        int[] wrong = {-1, -2, 1000, 1001, Integer.MAX_VALUE, Integer.MIN_VALUE};
        for (int n : wrong) {
            due.nothing("set(0, " + n + ")", ActEdgesTest::ring, t -> t.set(0, n));
        }
        due.nothing("set(0, 2): it has just so many", ActEdgesTest::ring, t -> t.set(0, 2));
        due.nothing("set(1, 2): it has just so many", ActEdgesTest::ring, t -> t.set(1, 2));
        due.nothing("set(0, 0) of none", () -> Due.net("place a;"), t -> t.set(0, 0));
        due.nothing("set(0, 999) of 999", () -> {
            TokenSums x = ring();
            x.set(0, 999);
            return x;
        }, t -> t.set(0, 999));
        for (int p : FAR) {
            due.nothing("set(" + p + ", 5)", ActEdgesTest::ring, t -> t.set(p, 5));
        }
        due.nothing("set(2, 5)", ActEdgesTest::ring, t -> t.set(2, 5));
        due.nothing("set(10, 5)", ActEdgesTest::ring, t -> t.set(10, 5));
        due.nothing("set of a place that is gone", () -> {
            TokenSums x = Due.net("place x 2;place y;place z 1;step v takes 2 x gives 3 y;step w takes 3 y gives 2 x;");
            x.become();
            return x;
        }, t -> t.set(2, 5));
    }

    // Promise 12: "A RUN of n STEPS (1 .. 200) by a seed": "How many were done (one ACT, also of none)".
    private static void runFrom1To200(Due due) {
        int[] many = {1, 2, 199, 200};
        for (int n : many) {
            TokenSums x = Due.net("place a;step s gives a;");
            due.is("run(5, " + n + ")", x.run(5, n), n);
            due.is("tokens(0)", x.tokens(0), n);
            due.is("one act", x.about(5), 1);
            x.undo();
            due.is("undone at once", x.tokens(0), 0);
        }
    }

    // Promise 12: "NONE, doing nothing, for another n, or without STEPS."
    private static void runRefused(Due due) {
        int[] wrong = {0, -1, -200, 201, 202, Integer.MAX_VALUE, Integer.MIN_VALUE};
        for (int n : wrong) {
            due.nothing("run(1, " + n + ")", ActEdgesTest::ring, t -> t.run(1, n));
        }
        due.nothing("run without steps", () -> Due.net("place a 5;"), t -> t.run(1, 1));
        due.nothing("run without steps that are left", () -> {
            TokenSums x = Due.net("place a 3;place b;step s takes a gives b;");
            x.become();
            return x;
        }, t -> t.run(1, 1));
        due.nothing("run(1, 0) of none that can", () -> Due.net("place a;step s takes a;"), t -> t.run(1, 0));
    }

    // Promise 12: "each time the seed becomes seed * 1103515245 + 12345 as an int (the seed wraps);
    // (seed >>> 16) % how many CAN be done tells which of these, by number".
    private static void runDraws(Due due) {
        String eight = "place a;place b;place c;place d;place e;place f;place g;place h;step p gives a;step q gives b;step r gives c;"
                + "step s gives d;step t gives e;step u gives f;step v gives g;step w gives h;";
        String three = "place a;place b;place c;place d;place e;place f;place g;place h;place i;step p takes i;step q gives b;"
                + "step r takes i;step s takes i;step t gives e;step u takes i;step v takes i;step w gives h;";
        int[] seeds = {0, 1, 2, -1, -2, 77, 65535, 65536, 1 << 30, Integer.MAX_VALUE, Integer.MIN_VALUE, 123456789, -987654321};
        for (int seed : seeds) {
            int[] got = new int[8];
            int[] few = new int[8];
            int drawn = seed;
            for (int i = 0; i < 7; i++) {
                drawn = (int) (drawn * 1103515245L + 12345L);
                int high = (int) ((drawn & 0xffffffffL) / 65536);
                got[high % 8]++;
                few[new int[] {1, 4, 7}[high % 3]]++;
            }
            TokenSums x = Due.net(eight);
            TokenSums y = Due.net(three);
            due.is("run(" + seed + ", 7)", x.run(seed, 7), 7);
            due.is("run(" + seed + ", 7)", y.run(seed, 7), 7);
            for (int p = 0; p < 8; p++) {
                due.is("tokens(" + p + ") behind run(" + seed + ", 7)", x.tokens(p), got[p]);
                due.is("tokens(" + p + ") behind run(" + seed + ", 7), three can", y.tokens(p), few[p]);
            }
        }
        // By hand: 0 becomes 12345 (0 above 16 bits: the first), then 12345 * 1103515245 + 12345 =
        // 0xd3dc167e as an int (54236 above 16 bits: the first of two).
        TokenSums z = Due.net("place a;place b;step p gives a;step q gives b;");
        due.is("run(0, 2)", z.run(0, 2), 2);
        due.is("tokens(0)", z.tokens(0), 2);
        // 1 becomes 1103527590 (16838 above 16 bits: the third of three).
        TokenSums w = Due.net("place a;place b;place c;step p gives a;step q gives b;step r gives c;");
        due.is("run(1, 1)", w.run(1, 1), 1);
        due.is("tokens(2)", w.tokens(2), 1);
    }

    // Promise 12: "it ends where none CAN. How many were done (one ACT, also of none)".
    private static void runEnds(Due due) {
        TokenSums x = Due.net("place a 5;step s takes a;");
        due.is("run(1, 200)", x.run(1, 200), 5);
        due.is("tokens(0)", x.tokens(0), 0);
        due.is("about(5)", x.about(5), 1);
        due.is("run of none", x.run(1, 200), 0);
        due.is("is an act", x.about(5), 2);
        x.undo();
        due.is("tokens(0)", x.tokens(0), 0);
        x.undo();
        due.is("tokens(0)", x.tokens(0), 5);
        due.is("run(1, 4)", x.run(1, 4), 4);
        x.undo();
        due.is("run(1, 5)", x.run(1, 5), 5);
        x.undo();
        due.is("run(1, 6)", x.run(1, 6), 5);
        TokenSums y = Due.net("place a;step s gives 2 a;");
        y.set(0, 990);
        due.is("run to 998", y.run(1, 200), 4);
        due.is("tokens(0)", y.tokens(0), 998);
    }

    // Promise 13: "STEPS that CAN be done, as bits."
    private static void canBits(Due due) {
        TokenSums x = Due.net("place a 1;step p takes a;step q takes a;step r takes a;step s takes a;step t takes a;step u takes a;step v takes a;step w takes a;");
        due.nothing("can() of eight", () -> Due.net("place a 1;step p takes a;step q takes 2 a;step r;"), t -> t.can(), 5);
        due.is("can()", x.can(), 255);
        due.is("fire(7)", x.fire(7), 0);
        due.is("can()", x.can(), 0);
        due.is("can() without steps", Due.net("place a 1;").can(), 0);
    }

    // Promise 14: "false if there is none."
    private static void undoRefused(Due due) {
        due.nothing("undo() of none", () -> {
            TokenSums x = Due.net("place a 3;place b;step s takes a gives b;");
            x.aim(1, 2);
            return x;
        }, t -> t.undo() ? 1 : 0, 0);
        due.nothing("undo() behind all", () -> {
            TokenSums x = ring();
            x.undo();
            x.undo();
            return x;
        }, t -> t.undo() ? 1 : 0, 0);
    }

    // "ACTS: a STEP is done, TOKENS are set, a RUN, become(). UNDO takes back the latest that was not".
    private static void undoEachAct(Due due) {
        due.nothing("fire(0) undone", ActEdgesTest::ring, t -> t.fire(0) >= 0 && t.undo() ? 1 : 0, 1);
        due.nothing("set(0, 7) undone", ActEdgesTest::ring, t -> t.set(0, 7) >= 0 && t.undo() ? 1 : 0, 1);
        due.nothing("run(3, 9) undone", ActEdgesTest::ring, t -> t.run(3, 9) >= 0 && t.undo() ? 1 : 0, 1);
        due.nothing("become() undone", () -> {
            TokenSums x = Due.net("place a 3;place b;place c 1;step s takes a gives b;step t takes b gives 2 c;");
            x.aim(0, 2);
            x.aim(2, 5);
            x.fire(0);
            return x;
        }, t -> t.become() >= 0 && t.undo() ? 1 : 0, 1);
        // AIM is no act: it stays what it is.
        TokenSums x = ring();
        x.aim(0, 6);
        x.undo();
        due.is("aim behind undo()", x.aim(0, 6), 6);
        // The latest that was not: a new act behind undo() is the latest then.
        TokenSums y = Due.net("place a;step s gives a;");
        y.fire(0);
        y.fire(0);
        y.undo();
        y.set(0, 9);
        y.undo();
        due.is("tokens(0)", y.tokens(0), 1);
        y.undo();
        due.is("tokens(0)", y.tokens(0), 0);
        due.is("undo()", y.undo(), false);
    }

    // "12 are kept, the oldest go."
    private static void twelveAreKept(Due due) {
        for (int acts = 10; acts <= 26; acts++) {
            TokenSums x = Due.net("place a;step s gives a;");
            for (int i = 0; i < acts; i++) {
                x.fire(0);
            }
            int kept = Math.min(acts, 12);
            due.is("about(5) behind " + acts, x.about(5), kept);
            for (int i = 1; i <= kept; i++) {
                due.is("undo() " + i + " of " + acts, x.undo(), true);
                due.is("tokens(0)", x.tokens(0), acts - i);
            }
            due.is("one undo() more, of " + acts, x.undo(), false);
            due.is("tokens(0)", x.tokens(0), acts - kept);
        }
        // All four kinds are kept in one row: the thirteenth act drives the first out.
        TokenSums y = Due.net("place a 3;place b;place c;step s takes a gives b;step t takes b gives 2 c;step u takes 2 c gives a;");
        y.set(0, 50);
        for (int i = 0; i < 10; i++) {
            y.fire(0);
        }
        y.run(1, 3);
        due.is("about(5)", y.about(5), 12);
        due.is("become()", y.become() > 0, true);
        due.is("about(5)", y.about(5), 12);
        for (int i = 0; i < 12; i++) {
            due.is("undo()", y.undo(), true);
        }
        due.is("undo()", y.undo(), false);
        due.is("tokens(0): set(0, 50) is not undone", y.tokens(0), 50);
        due.is("about(2)", y.about(2), 7);
    }

    /** A refused call drives no act out when twelve are kept. */
    private static void refusedCallsTakeNoAct(Due due) {
        due.nothing("fire(1)", () -> {
            TokenSums x = ringOfTwelve();
            x.set(1, 0);
            return x;
        }, t -> t.fire(1));
        due.nothing("fire(2)", ActEdgesTest::ringOfTwelve, t -> t.fire(2));
        due.nothing("set(0, 22)", ActEdgesTest::ringOfTwelve, t -> t.set(0, 22));
        due.nothing("set(0, 1000)", ActEdgesTest::ringOfTwelve, t -> t.set(0, 1000));
        due.nothing("set(2, 1)", ActEdgesTest::ringOfTwelve, t -> t.set(2, 1));
        due.nothing("run(1, 201)", ActEdgesTest::ringOfTwelve, t -> t.run(1, 201));
        due.nothing("become()", () -> {
            TokenSums x = Due.net("place x 2;place y;step v takes 2 x gives 3 y;step w takes 3 y gives 2 x;");
            for (int n = 10; n < 23; n++) {
                x.set(0, n);
            }
            return x;
        }, t -> t.become());
        due.nothing("aim(2, 0)", ActEdgesTest::ringOfTwelve, t -> t.aim(2, 0));
    }
}
