/** Promises 31 to 35: graph, marking, came, live, most. */
public final class GraphTest {
    private static final int NONE = TokenSums.NONE;

    public static void main(String[] args) {
        Due due = new Due("GraphTest");
        numbering(due);
        homes(due);
        lives(due);
        full(due);
        fullGoesOn(due);
        upperEnd(due);
        anew(due);
        wrong(due);
        due.close();
    }

    private static void row(Due due, TokenSums x, int i, int... want) {
        for (int p = 0; p < want.length; p++) {
            due.is("marking(" + i + "," + p + ")", x.marking(i, p), want[p]);
        }
    }

    private static void way(Due due, TokenSums x, int i, int from, int by, int can, int home) {
        due.is("came(" + i + ",0)", x.came(i, 0), from);
        due.is("came(" + i + ",1)", x.came(i, 1), by);
        due.is("came(" + i + ",2)", x.came(i, 2), can);
        due.is("came(" + i + ",3)", x.came(i, 3), home);
    }

    private static void all(Due due, TokenSums x, int... want) {
        for (int what = 0; what < want.length; what++) {
            due.is("graph(" + what + ")", x.graph(what), want[what]);
        }
    }

    /** Breadth first: 0 (1,1,0,0); by s 1 (0,1,1,0); by t 2 (1,0,0,1); from both 3 (0,0,1,1). */
    private static void numbering(Due due) {
        TokenSums x = Due.net("place a 1; place b 1; place c; place d; step s takes a gives c; step t takes b gives d;");
        all(due, x, 4, 0, 1, 3, 1);
        row(due, x, 0, 1, 1, 0, 0);
        row(due, x, 1, 0, 1, 1, 0);
        row(due, x, 2, 1, 0, 0, 1);
        row(due, x, 3, 0, 0, 1, 1);
        way(due, x, 0, NONE, NONE, 3, 0);
        way(due, x, 1, 0, 0, 2, 0);
        way(due, x, 2, 0, 1, 1, 0);
        way(due, x, 3, 1, 1, 0, 1);
        due.is("most(0)", x.most(0), 1);
        due.is("most(3)", x.most(3), 1);
        due.is("live(0)", x.live(0), 0);
    }

    private static void homes(Due due) {
        // Two dead ends: no home.
        TokenSums x = Due.net("place a 1; place b; place c; step s takes a gives b; step t takes a gives c;");
        all(due, x, 3, 0, 2, 1, 0);
        way(due, x, 1, 0, 0, 0, 0);
        way(due, x, 2, 0, 1, 0, 0);
        // A way in, then a ring of two: both of the ring are home.
        TokenSums y = Due.net("place a 1; place b; place c; step s takes a gives b; step t takes b gives c; step u takes c gives b;");
        all(due, y, 3, 0, 0, NONE, 2);
        way(due, y, 0, NONE, NONE, 1, 0);
        way(due, y, 1, 0, 0, 2, 1);
        way(due, y, 2, 1, 1, 4, 1);
        // Two rings that one can't leave: none.
        TokenSums z = Due.net("place a 1; place b; place c; step s takes a gives b; step t takes a gives c;"
                + "step u takes b gives b; step v takes c gives c;");
        all(due, z, 3, 0, 0, NONE, 0);
        // All are home in a ring.
        TokenSums w = Due.net("place a 2; place b; step s takes a gives b; step t takes b gives a;");
        all(due, w, 3, 0, 0, NONE, 3);
        // A dead one alone, and one that only goes round in itself.
        all(due, Due.net("place a; step s takes a;"), 1, 0, 1, 0, 1);
        all(due, Due.net("step s;"), 1, 0, 0, NONE, 1);
    }

    private static void lives(Due due) {
        TokenSums x = Due.net("place a 1; place b; place c; step s takes a gives b; step t takes b gives c; step u takes c gives b;");
        due.is("live(0), once only", x.live(0), 0);
        due.is("live(1)", x.live(1), 1);
        due.is("live(2)", x.live(2), 1);
        TokenSums y = Due.net("place a 1; place b; place c; step s takes a gives b; step t takes a gives c;"
                + "step u takes b gives b; step v takes c gives c; step w;");
        due.is("live(2), in one ring only", y.live(2), 0);
        due.is("live(3), in the other", y.live(3), 0);
        due.is("live(4), always", y.live(4), 1);
        due.is("live(5)", y.live(5), NONE);
        due.is("live(-1)", y.live(-1), NONE);
        due.is("live(8)", y.live(8), NONE);
    }

    private static void full(Due due) {
        TokenSums x = Due.net("place a; place b; step s takes a gives b;");
        x.set(0, 299);
        all(due, x, 300, 0, 1, 299, 1);
        due.is("live(0)", x.live(0), 0);
        due.is("most(1)", x.most(1), 299);
        x.set(0, 300);
        all(due, x, 300, 1, 0, NONE, 1);
        due.is("live(0) in what is there", x.live(0), 1);
        due.is("most(1)", x.most(1), 299);
        due.is("came(299,2)", x.came(299, 2), 1);
        due.is("came(299,3)", x.came(299, 3), 1);
        due.is("came(299,0)", x.came(299, 0), 298);
        due.is("came(300,0)", x.came(300, 0), NONE);
        due.is("marking(299,0)", x.marking(299, 0), 1);
        due.is("marking(300,0)", x.marking(300, 0), NONE);
    }

    /** Behind the 300th the ways back are still seen: all are home. */
    private static void fullGoesOn(Due due) {
        TokenSums x = Due.net("place a; place b; step s takes a gives b; step t takes b gives a;");
        x.set(0, 400);
        all(due, x, 300, 1, 0, NONE, 300);
        due.is("live(0)", x.live(0), 1);
        due.is("live(1)", x.live(1), 1);
        // Once a has a token it always has one.
        TokenSums y = Due.net("place a; step s gives a; step u takes 2 a gives a;");
        all(due, y, 300, 1, 0, NONE, 299);
        due.is("came(0,3)", y.came(0, 3), 0);
        due.is("came(1,3)", y.came(1, 3), 1);
    }

    private static void upperEnd(Due due) {
        TokenSums x = Due.net("place a; step s gives 3 a;");
        x.set(0, 990);
        all(due, x, 4, 0, 1, 3, 1);
        due.is("most(0)", x.most(0), 999);
        x.set(0, 991);
        all(due, x, 3, 0, 1, 2, 1);
        due.is("most(0)", x.most(0), 997);
    }

    private static void anew(Due due) {
        TokenSums x = Due.net("place a 3; place b; step s takes a gives b;");
        due.is("graph(0)", x.graph(0), 4);
        x.fire(0);
        due.is("graph(0) behind fire", x.graph(0), 3);
        due.is("marking(0,0)", x.marking(0, 0), 2);
        x.set(0, 9);
        due.is("graph(0) behind set", x.graph(0), 10);
        x.undo();
        due.is("graph(0) behind undo", x.graph(0), 3);
        x.run(1, 2);
        due.is("graph(0) behind a run", x.graph(0), 1);
        x.undo();
        x.undo();
        due.is("graph(0) as at first", x.graph(0), 4);
        Due.lay(x, "place a 1; step s takes a;");
        x.net();
        due.is("graph(0) of another net", x.graph(0), 2);
    }

    private static void wrong(Due due) {
        TokenSums x = Due.net("place a 1; place b; step s takes a gives b;");
        due.is("graph(5)", x.graph(5), NONE);
        due.is("graph(-1)", x.graph(-1), NONE);
        due.is("marking(-1,0)", x.marking(-1, 0), NONE);
        due.is("marking(2,0)", x.marking(2, 0), NONE);
        due.is("marking(0,2)", x.marking(0, 2), NONE);
        due.is("marking(0,-1)", x.marking(0, -1), NONE);
        due.is("marking(MAX,0)", x.marking(Integer.MAX_VALUE, 0), NONE);
        due.is("came(-1,0)", x.came(-1, 0), NONE);
        due.is("came(2,2)", x.came(2, 2), NONE);
        due.is("came(0,4)", x.came(0, 4), NONE);
        due.is("came(1,-1)", x.came(1, -1), NONE);
        due.is("most(2)", x.most(2), NONE);
        due.is("most(-1)", x.most(-1), NONE);
        due.is("live(1)", x.live(1), NONE);
    }
}
