/** The edges of promises 31 to 35 and of GRAPH, FULL, DEAD, LIVE and HOME, a sentence each. */
public final class GraphEdgesTest {
    private static final int NONE = TokenSums.NONE;
    private static final int[] FAR = {-1, -2, 1024, Integer.MAX_VALUE, Integer.MIN_VALUE};

    public static void main(String[] args) {
        Due due = new Due("GraphEdgesTest");
        presentIsFirst(due);
        oneMoreIfNotThere(due);
        threeHundred(due);
        fullByTwo(due);
        allElseGoesOn(due);
        upTo999(due);
        dead(due);
        live(due);
        home(due);
        anotherGraph(due);
        markingOfNone(due);
        cameOfNone(due);
        liveOfNone(due);
        mostOf(due);
        madeAnew(due);
        goneOnes(due);
        due.close();
    }

    /** Three MARKINGS: (2, 0), (1, 1), (0, 2); the last is DEAD. */
    private static TokenSums line() {
        TokenSums x = Due.net("place a 3;place b;step s takes a gives b;");
        x.set(0, 2);
        return x;
    }

    private static void graph(Due due, TokenSums x, int... want) {
        for (int what = 0; what < want.length; what++) {
            due.is("graph(" + what + ")", x.graph(what), want[what]);
        }
    }

    private static void came(Due due, TokenSums x, int i, int... want) {
        for (int what = 0; what < want.length; what++) {
            due.is("came(" + i + ", " + what + ")", x.came(i, what), want[what]);
        }
    }

    // "numbered from 0 on: the present one is 0"; promise 33: "(both NONE of 0)".
    private static void presentIsFirst(Due due) {
        TokenSums x = line();
        due.is("marking(0, 0)", x.marking(0, 0), 2);
        due.is("marking(0, 1)", x.marking(0, 1), 0);
        came(due, x, 0, NONE, NONE, 1, 0);
        came(due, x, 1, 0, 0, 1, 0);
        came(due, x, 2, 1, 0, 0, 1);
        // Also if one comes back to it.
        TokenSums y = Due.net("place a 1;place b;step s takes a gives b;step t takes b gives a;");
        came(due, y, 0, NONE, NONE, 1, 1);
        came(due, y, 1, 0, 0, 2, 1);
        graph(due, new TokenSums(), 1, 0, 1, 0, 1);
        came(due, new TokenSums(), 0, NONE, NONE, 0, 1);
    }

    // "MARKING by MARKING, each STEP that CAN be done, by number, brings one more, if it is not there."
    private static void oneMoreIfNotThere(Due due) {
        // 0: (1,0,0); by t first 1: (0,1,0), by u 2: (0,0,1); from 1 by v 3: (0,0,2).
        TokenSums x = Due.net("place a 1;place b;place c;step s takes b takes c;step t takes a gives b;step u takes a gives c;step v takes b gives 2 c;");
        graph(due, x, 4, 0, 2, 2, 0);
        came(due, x, 1, 0, 1, 8, 0);
        came(due, x, 2, 0, 2, 0, 0);
        came(due, x, 3, 1, 3, 0, 0);
        due.is("marking(3, 2)", x.marking(3, 2), 2);
        // Two steps to one marking: it came by the first; one that stays brings none.
        TokenSums y = Due.net("place a 1;place b;step r takes a gives a;step s takes a gives b;step t takes a gives b;");
        graph(due, y, 2, 0, 1, 1, 1);
        came(due, y, 0, NONE, NONE, 7, 0);
        came(due, y, 1, 0, 1, 0, 1);
        // Markings that differ in the tenth place alone are two.
        TokenSums z = Due.net("place a;place b;place c;place d;place e;place f;place g;place h;place i;place j 2;step s takes j;");
        graph(due, z, 3, 0, 1, 2, 1);
        // First come from the marking that comes first, though a later one brings it by a lesser step.
        TokenSums w = Due.net("place a 1;place b;place c;place d;step p takes c gives d;step q takes a gives b;step r takes a gives c;step s takes b gives d;");
        graph(due, w, 4, 0, 1, 3, 1);
        came(due, w, 3, 1, 3, 0, 1);
    }

    // "300 at most"; "FULL: a 301st would have come".
    private static void threeHundred(Due due) {
        TokenSums x = Due.net("place a;place b;step s takes a gives b;");
        x.set(0, 298);
        graph(due, x, 299, 0, 1, 298, 1);
        x.set(0, 299);
        graph(due, x, 300, 0, 1, 299, 1);
        due.is("marking(299, 1)", x.marking(299, 1), 299);
        x.set(0, 300);
        graph(due, x, 300, 1, 0, NONE, 1);
        due.is("marking(299, 1)", x.marking(299, 1), 299);
        due.is("marking(300, 1)", x.marking(300, 1), NONE);
        x.set(0, 301);
        graph(due, x, 300, 1, 0, NONE, 1);
        x.set(0, 999);
        graph(due, x, 300, 1, 0, NONE, 1);
    }

    /** Two that go down together: (n + 1) * (m + 1) markings, 300 = 15 * 20, 289 = 17 * 17, 306 = 17 * 18. */
    private static void fullByTwo(Due due) {
        TokenSums x = Due.net("place a;place b;step s takes a;step t takes b;");
        x.set(0, 14);
        x.set(1, 19);
        graph(due, x, 300, 0, 1, 299, 1);
        due.is("came(299, 0)", x.came(299, 0), 297);
        x.set(0, 16);
        x.set(1, 16);
        graph(due, x, 289, 0, 1, 288, 1);
        x.set(1, 17);
        graph(due, x, 300, 1, 0, NONE, 0);
    }

    // "(it is not there, nor any later one; all else goes on)".
    private static void allElseGoesOn(Due due) {
        // Behind the 300th the ways back are still gone.
        TokenSums x = Due.net("place a;place b;step s takes a gives b;step t takes b gives a;");
        x.set(0, 300);
        graph(due, x, 300, 1, 0, NONE, 300);
        came(due, x, 299, 298, 0, 3, 1);
        due.is("live(0)", x.live(0), 1);
        due.is("live(1)", x.live(1), 1);
        // The last marking that is there brings a 301st by s, and then goes back by t all the same.
        TokenSums y = Due.net("place a;step s gives a;step t takes 3 a;step u takes 2 a gives 2 a;");
        graph(due, y, 300, 1, 0, NONE, 300);
        came(due, y, 299, 298, 0, 7, 1);
        // Without a way back only the last is home.
        TokenSums z = Due.net("place a;step s gives a;");
        graph(due, z, 300, 1, 0, NONE, 1);
        came(due, z, 298, 297, 0, 1, 0);
        came(due, z, 299, 298, 0, 1, 1);
        due.is("live(0): the last still CAN", z.live(0), 1);
        due.is("most(0)", z.most(0), 299);
        // Each marking brings two, one of them DEAD (b has a token, so nothing can be done any more).
        TokenSums w = Due.net("place a 1;place b;place c;step s takes a gives b;step t takes a gives a gives c;");
        graph(due, w, 300, 1, 150, 1, 0);
        due.is("came(2, 1)", w.came(2, 1), 1);
        due.is("came(299, 1)", w.came(299, 1), 0);
        due.is("live(1)", w.live(1), 0);
    }

    /** In the GRAPH, too, no PLACE has more than 999. */
    private static void upTo999(Due due) {
        TokenSums x = Due.net("place a;step s gives a;");
        x.set(0, 701);
        graph(due, x, 299, 0, 1, 298, 1);
        x.set(0, 700);
        graph(due, x, 300, 0, 1, 299, 1);
        due.is("most(0)", x.most(0), 999);
        due.is("came(299, 2)", x.came(299, 2), 0);
        due.is("live(0)", x.live(0), 0);
        x.set(0, 699);
        graph(due, x, 300, 1, 0, NONE, 1);
        due.is("most(0)", x.most(0), 998);
        due.is("came(299, 2)", x.came(299, 2), 1);
        due.is("live(0)", x.live(0), 1);
        x.set(0, 999);
        graph(due, x, 1, 0, 1, 0, 1);
        x.set(0, 998);
        graph(due, x, 2, 0, 1, 1, 1);
    }

    // "DEAD is a MARKING in which no STEP CAN be done"; promise 31: "3: the first that is (NONE)".
    private static void dead(Due due) {
        graph(due, Due.net("place a;step s takes a;"), 1, 0, 1, 0, 1);
        graph(due, Due.net("place a;step s takes a;step t takes a gives a;"), 1, 0, 1, 0, 1);
        graph(due, Due.net("place a;step s takes a;step t;"), 1, 0, 0, NONE, 1);
        graph(due, Due.net("place a 1;step s takes a;"), 2, 0, 1, 1, 1);
        graph(due, Due.net("place a 1;place b;place c;step s takes a gives b;step t takes a gives c;"), 3, 0, 2, 1, 0);
        graph(due, Due.net("place a 1;"), 1, 0, 1, 0, 1);
    }

    // "A STEP is LIVE, if from each MARKING of the GRAPH one comes (by STEPS between its MARKINGS) to one
    // in which it CAN be done."
    private static void live(Due due) {
        TokenSums x = Due.net("place a 1;place b;step s takes a gives b;step t takes b gives a;");
        due.is("round", x.live(0) + 2 * x.live(1), 3);
        TokenSums y = Due.net("place a 1;place b;step s takes a gives b;step t takes b gives b;step u takes a gives a;");
        due.is("once only", y.live(0), 0);
        due.is("at the end", y.live(1), 1);
        due.is("at the beginning only", y.live(2), 0);
        due.is("never", Due.net("place a;step s takes a;step t;").live(0), 0);
        due.is("always", Due.net("place a;step s takes a;step t;").live(1), 1);
        // Two ends: what lives in one of them only is not LIVE.
        TokenSums z = Due.net("place a 1;place b;place c;step s takes a gives b;step t takes a gives c;step u takes b gives b;step v takes b gives b;"
                + "step w takes c gives c;");
        due.is("in one end only", z.live(2) + z.live(3) + z.live(4), 0);
        // A way out of the GRAPH is none between its MARKINGS: at 299 the 301st would have been u's.
        TokenSums w = Due.net("place a;step s gives a;step u takes 3 a gives 3 a;");
        due.is("live(1)", w.live(1), 1);
        TokenSums v = Due.net("place a;place b;step s gives b gives a;step u takes 3 b takes 3 a gives 3 a gives 3 b;step k takes a gives a;");
        v.set(0, 697);
        due.is("graph(0)", v.graph(0), 300);
        due.is("live(1)", v.live(1), 1);
        due.is("the eighth step", Due.net("place a 1;step p;step q;step r;step s;step t;step u;step v;step w takes a gives a;").live(7), 1);
    }

    // "HOME is a MARKING to which one comes from each"; promise 31: "4: how many are HOME".
    private static void home(Due due) {
        due.is("all of a ring", Due.net("place a 2;place b;step s takes a gives b;step t takes b gives a;").graph(4), 3);
        due.is("the end alone", line().graph(4), 1);
        due.is("two ends: none", Due.net("place a 1;place b;place c;step s takes a gives b;step t takes a gives c;").graph(4), 0);
        due.is("one alone", Due.net("place a 5;").graph(4), 1);
        // A way in, then a ring of two.
        TokenSums x = Due.net("place a 1;place b;place c;step s takes a gives b;step t takes b gives c;step u takes c gives b;");
        due.is("the ring", x.graph(4), 2);
        due.is("came(0, 3)", x.came(0, 3), 0);
        due.is("came(1, 3)", x.came(1, 3), 1);
        due.is("came(2, 3)", x.came(2, 3), 1);
        // The home is neither the first nor the last by its number.
        TokenSums y = Due.net("place a 1;place b;place c;place d;step s takes a gives b;step t takes a gives c;step u takes c gives d;step v takes d gives b;");
        due.is("graph(0)", y.graph(0), 4);
        due.is("graph(4)", y.graph(4), 1);
        due.is("came(1, 3)", y.came(1, 3), 1);
        due.is("came(3, 3)", y.came(3, 3), 0);
    }

    // Promise 31: "NONE for another what."
    private static void anotherGraph(Due due) {
        due.nothing("graph(5)", GraphEdgesTest::line, t -> t.graph(5));
        due.nothing("graph(6)", GraphEdgesTest::line, t -> t.graph(6));
        for (int n : FAR) {
            due.nothing("graph(" + n + ")", GraphEdgesTest::line, t -> t.graph(n));
        }
    }

    // Promise 32: "NONE if there is none such."
    private static void markingOfNone(Due due) {
        due.is("marking(2, 1)", line().marking(2, 1), 2);
        due.nothing("marking(3, 0)", GraphEdgesTest::line, t -> t.marking(3, 0));
        due.nothing("marking(0, 2)", GraphEdgesTest::line, t -> t.marking(0, 2));
        due.nothing("marking(0, 10)", GraphEdgesTest::line, t -> t.marking(0, 10));
        due.nothing("marking(299, 0)", GraphEdgesTest::line, t -> t.marking(299, 0));
        due.nothing("marking(300, 0)", GraphEdgesTest::line, t -> t.marking(300, 0));
        for (int n : FAR) {
            due.nothing("marking(" + n + ", 0)", GraphEdgesTest::line, t -> t.marking(n, 0));
            due.nothing("marking(0, " + n + ")", GraphEdgesTest::line, t -> t.marking(0, n));
        }
        due.is("marking(0, 0) of a new object", new TokenSums().marking(0, 0), NONE);
    }

    // Promise 33: "NONE if there is none such, or for another what."
    private static void cameOfNone(Due due) {
        for (int what = 0; what < 4; what++) {
            int w = what;
            due.nothing("came(3, " + w + ")", GraphEdgesTest::line, t -> t.came(3, w));
            due.nothing("came(-1, " + w + ")", GraphEdgesTest::line, t -> t.came(-1, w));
            due.nothing("came(300, " + w + ")", GraphEdgesTest::line, t -> t.came(300, w));
        }
        due.nothing("came(1, 4)", GraphEdgesTest::line, t -> t.came(1, 4));
        due.nothing("came(0, 4)", GraphEdgesTest::line, t -> t.came(0, 4));
        for (int n : FAR) {
            due.nothing("came(" + n + ", 2)", GraphEdgesTest::line, t -> t.came(n, 2));
            due.nothing("came(1, " + n + ")", GraphEdgesTest::line, t -> t.came(1, n));
        }
    }

    // Promise 34: "NONE if there is none such."
    private static void liveOfNone(Due due) {
        due.is("live(0)", line().live(0), 0);
        due.nothing("live(1)", GraphEdgesTest::line, t -> t.live(1));
        due.nothing("live(8)", GraphEdgesTest::line, t -> t.live(8));
        for (int n : FAR) {
            due.nothing("live(" + n + ")", GraphEdgesTest::line, t -> t.live(n));
        }
        due.nothing("live(32): no step, though its bits wrap", GraphEdgesTest::line, t -> t.live(32));
    }

    // Promise 35: "The most TOKENS of a PLACE in all MARKINGS; NONE if there is none such."
    private static void mostOf(Due due) {
        TokenSums x = line();
        due.is("at the beginning", x.most(0), 2);
        due.is("at the end", x.most(1), 2);
        TokenSums y = Due.net("place a 1;place b;place c;step s takes a gives 3 b;step t takes 2 b gives c;");
        due.is("in between", y.most(1), 3);
        due.is("at the end", y.most(2), 1);
        due.is("never", Due.net("place a;place b;step s takes a gives b;").most(1), 0);
        due.nothing("most(2)", GraphEdgesTest::line, t -> t.most(2));
        due.nothing("most(10)", GraphEdgesTest::line, t -> t.most(10));
        for (int n : FAR) {
            due.nothing("most(" + n + ")", GraphEdgesTest::line, t -> t.most(n));
        }
    }

    // "---- the GRAPH (made anew from the present MARKING whenever one asks)".
    private static void madeAnew(Due due) {
        TokenSums x = line();
        due.is("graph(0)", x.graph(0), 3);
        x.fire(0);
        due.is("behind fire", x.graph(0), 2);
        x.run(1, 1);
        due.is("behind run", x.graph(0), 1);
        x.set(0, 7);
        due.is("behind set", x.graph(0), 8);
        x.undo();
        due.is("behind undo", x.graph(0), 1);
        x.become();
        due.is("behind become", x.graph(0), 1);
        x.undo();
        x.undo();
        x.undo();
        due.is("behind three undos", x.graph(0), 3);
        Due.lay(x, "place a 9;step s takes a;");
        x.net();
        due.is("behind net", x.graph(0), 10);
        Due.lay(x, "place a 5;!");
        x.net();
        due.is("behind a net that is none", x.graph(0), 10);
    }

    /** Behind become() the GRAPH is that of the PLACES and STEPS that are left. */
    private static void goneOnes(Due due) {
        TokenSums x = Due.net("place p 1;place x 2;place y;step s takes p gives y;step t takes 2 x gives 2 p gives y;step w takes 3 y gives 2 x;");
        due.is("become()", x.become(), 1);
        graph(due, x, 2, 0, 0, NONE, 2);
        due.is("marking(0, 0)", x.marking(0, 0), NONE);
        due.is("marking(0, 2)", x.marking(0, 2), 1);
        due.is("marking(1, 2)", x.marking(1, 2), 4);
        due.is("most(0)", x.most(0), NONE);
        due.is("live(0)", x.live(0), NONE);
        due.is("live(1)", x.live(1), 1);
        came(due, x, 1, 0, 1, 4, 1);
    }
}
