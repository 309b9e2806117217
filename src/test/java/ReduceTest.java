/** Promises 36 to 39: reduce, rule, reduced, become. */
public final class ReduceTest {
    private static final int NONE = TokenSums.NONE;

    // A core that no rule makes smaller: its arcs are too heavy for rules 5 and 6.
    private static final String CORE = "place x 2; place y; step v takes 2 x gives 3 y; step w takes 3 y gives 2 x;";

    public static void main(String[] args) {
        Due due = new Due("ReduceTest");
        due.is("the core", Due.net(CORE).reduce(), 0);
        likePlaces(due);
        likeSteps(due);
        idlePlace(due);
        idleStep(due);
        joinSteps(due);
        joinPlaces(due);
        tooMuch(due);
        firstOfThem(due);
        reduced(due);
        become(due);
        largest(due);
        wrong(due);
        due.close();
    }

    /** The rules that are due, {number, place, step} each. */
    private static void rules(Due due, String text, int[]... want) {
        TokenSums x = Due.net(text);
        due.is("reduce() of " + text, x.reduce(), want.length);
        for (int i = 0; i < want.length; i++) {
            for (int what = 0; what < 3; what++) {
                due.is("rule(" + i + "," + what + ") of " + text, x.rule(i, what), want[i][what]);
            }
        }
        due.is("rule behind the last of " + text, x.rule(want.length, 0), NONE);
    }

    private static int[] r(int number, int place, int step) {
        return new int[] {number, place, step};
    }

    private static void likePlaces(Due due) {
        String steps = "step v takes 2 x takes 2 z gives 3 y; step w takes 3 y gives 2 x gives 2 z;";
        rules(due, "place x 2; place y; place z 2;" + steps, r(1, 2, NONE));
        rules(due, "place x 2; place y; place z 5;" + steps, r(1, 2, NONE));
        rules(due, "place x 3; place y; place z 2;" + steps);
        rules(due, "place x 2; place y; place z 2; step v takes 2 x takes z gives 3 y; step w takes 3 y gives 2 x gives z;");
    }

    private static void likeSteps(Due due) {
        rules(due, CORE + "step t takes 2 x gives 3 y;", r(2, NONE, 2));
        rules(due, CORE + "step t takes 3 y gives 2 x; step u takes 2 x gives 3 y;", r(2, NONE, 3), r(2, NONE, 2));
        rules(due, CORE + "step t takes 2 x gives 2 y;");
        rules(due, CORE + "step t takes 3 x gives 3 y;");
    }

    private static void idlePlace(Due due) {
        String steps = "step v takes 2 x takes 2 z gives 3 y gives 2 z; step w takes 3 y takes z gives z gives 2 x;";
        rules(due, "place x 2; place y; place z 2;" + steps, r(3, 2, NONE));
        rules(due, "place x 2; place y; place z 9;" + steps, r(3, 2, NONE));
        rules(due, "place x 2; place y; place z 1;" + steps);
        rules(due, "place x 2; place y; place z;" + steps);
        rules(due, CORE + "place z;", r(3, 2, NONE));
        rules(due, CORE + "place z 7;", r(3, 2, NONE));
        rules(due, "place a 3;", r(3, 0, NONE));
        // Without steps all places are alike; what is left is idle.
        rules(due, "place a 3; place b 2; place c 4;", r(1, 2, NONE), r(3, 0, NONE), r(3, 1, NONE));
    }

    private static void idleStep(Due due) {
        rules(due, CORE + "step t takes 2 x gives 2 x;", r(4, NONE, 2));
        rules(due, CORE + "step t;", r(4, NONE, 2));
        rules(due, CORE + "step t takes 2 x gives x;");
        rules(due, "step s;");
        rules(due, "step s; step t;", r(2, NONE, 1));
        rules(due, "place a; step s takes a gives a;");
        rules(due, "place a 1; step s takes a gives a;", r(3, 0, NONE));
    }

    private static void joinSteps(Due due) {
        String steps = "step s takes 2 x gives p gives y; step t takes p gives 2 y; step w takes 3 y gives 2 x;";
        rules(due, "place x 2; place y; place p;" + steps, r(5, 2, 1));
        rules(due, "place x 2; place y; place p 1;" + steps);
        rules(due, "place x 2; place y; place p; step s takes 2 x gives 2 p gives y; step t takes p gives 2 y; step w takes 3 y gives 2 x;");
        rules(due, "place x 2; place y; place p; step s takes 2 x gives p gives y; step t takes 2 p gives 2 y; step w takes 3 y gives 2 x;");
        rules(due, "place x 2; place y; place p; step s takes 2 x gives p gives y; step t takes p takes x gives 2 y; step w takes 3 y gives 2 x;");
        // Another step gives to p, or takes from it.
        rules(due, "place x 2; place y; place p; step s takes 2 x gives p gives y; step t takes p gives 2 y; step w takes 3 y gives 2 x gives p;");
        rules(due, "place x 2; place y; place p; step s takes 2 x gives p gives y; step t takes p gives 2 y; step w takes 3 y takes p gives 2 x;");
        // One and the same step gives and takes.
        rules(due, "place x 2; place y; place p; step s takes 2 x takes p gives p gives 3 y; step w takes 3 y gives 2 x;");
        // s takes from p, too.
        rules(due, "place x 2; place y; place p; step s takes 2 x takes p gives p gives y; step t takes p gives 2 y; step w takes 3 y gives 2 x;");
        // t may give nothing at all.
        rules(due, "place x 2; place y; place p; step s takes 2 x gives p gives 3 y; step t takes p; step w takes 3 y gives 2 x;", r(5, 2, 1));
    }

    private static void joinPlaces(Due due) {
        String steps = "step s takes p gives y; step t takes 2 x gives 2 p gives y; step w takes 3 y gives 2 x;";
        rules(due, "place x 2; place y; place p;" + steps, r(6, 2, 0));
        rules(due, "place x 2; place y; place p 5;" + steps, r(6, 2, 0));
        TokenSums x = Due.net("place x 2; place y 4; place p 5;" + steps);
        due.is("become()", x.become(), 1);
        due.is("tokens(1)", x.tokens(1), 9);
        due.is("arc(1,1,1)", x.arc(1, 1, 1), 3);
        due.is("about(3)", x.about(3), 6);
        due.is("about(2)", x.about(2), 3);
        rules(due, "place x 2; place y; place p; step s takes 2 p gives y; step t takes 2 x gives 2 p gives y; step w takes 3 y gives 2 x;");
        rules(due, "place x 2; place y; place p; step s takes p gives 2 y; step t takes 2 x gives 2 p gives y; step w takes 3 y gives 2 x;");
        rules(due, "place x 2; place y; place p; step s takes p gives y; step t takes 2 x gives 2 p gives y; step w takes 3 y takes p gives 2 x;");
        rules(due, "place x 2; place y; place p; step s takes p takes x gives y; step t takes 2 x gives 2 p gives y; step w takes 3 y gives 2 x;");
        rules(due, "place x 2; place y; place p; step s takes p gives y gives x; step t takes 2 x gives 2 p gives y; step w takes 3 y gives 2 x;");
    }

    private static void tooMuch(Due due) {
        // The same with place 0 as p, as y, and with step 0 as the one that gives.
        rules(due, "place p; place x 2; place y; step s takes 2 x gives p gives y; step t takes p gives 2 y; step w takes 3 y gives 2 x;", r(5, 0, 1));
        rules(due, "place y; place x 2; place p; step s takes 2 x gives p gives 2 y; step t takes p gives 2 y; step w takes 3 y gives 2 x;");
        rules(due, "place x 2; place y; place p; step t takes 2 x gives 2 p gives y; step s takes p gives y; step w takes 3 y gives 2 x;", r(6, 2, 1));
        rules(due, "place x 2; place y; place p; step t takes 2 x gives 2 p gives 2 y; step s takes p gives y; step w takes 3 y gives 2 x;");
        TokenSums z = Due.net("place x 2; place y; place p; step t takes 2 x gives 2 p gives y; step s takes p gives y; step w takes 3 y gives 2 x;");
        due.is("become()", z.become(), 1);
        due.is("arc(0,1,1)", z.arc(0, 1, 1), 3);
        // Rule 5: s would give 4 to y.
        rules(due, "place x 2; place y; place p; step s takes 2 x gives p gives 2 y; step t takes p gives 2 y; step w takes 3 y gives 2 x;");
        // Rule 6: t would give 4 to y.
        rules(due, "place x 2; place y; place p; step s takes p gives y; step t takes 2 x gives 2 p gives 2 y; step w takes 3 y gives 2 x;");
        TokenSums x = Due.net("place x 2; place y; place p; step s takes p gives y; step t takes 2 x gives 2 p gives y; step w takes 3 y gives 2 x;");
        x.set(1, 900);
        x.set(2, 99);
        due.is("reduce() to 999", x.reduce(), 1);
        x.set(2, 100);
        due.is("reduce() above 999", x.reduce(), 0);
        due.is("become() above 999", x.become(), NONE);
    }

    /** By its number, then its first number, then its second. */
    private static void firstOfThem(Due due) {
        rules(due, CORE + "place a 3; place b 2; step t; step u;",
                r(2, NONE, 3), r(3, 2, NONE), r(3, 3, NONE), r(4, NONE, 2));
        rules(due, CORE + "place a 2; place b 1; place c 1; place d 3;",
                r(1, 5, NONE), r(1, 4, NONE), r(3, 2, NONE), r(3, 3, NONE));
        // Rule 5 could do with both p and q: p first.
        rules(due, "place x 2; place q; place p; place y; step s takes 2 x gives q; step t takes q gives p gives y; step u takes p gives 2 y;"
                + "step w takes 3 y gives 2 x;", r(5, 1, 1), r(5, 2, 2));
        // A line of three: 6 by its step, then what is left is idle.
        rules(due, "place a 1; place b 1; place c 1; step s takes b gives c; step t takes a gives b;",
                r(6, 1, 0), r(6, 0, 1), r(3, 2, NONE));
    }

    private static void reduced(Due due) {
        TokenSums x = Due.net("place x 2; place y; place p 1; step s takes p gives y; step t takes 2 x gives 2 p gives y; step w takes 3 y gives 2 x;");
        int[] want = {0b011, 0b110, 2, 0, 0b110, 0};
        for (int what = 0; what < 6; what++) {
            due.is("reduced(" + what + ")", x.reduced(what), want[what]);
        }
        due.is("the net itself stays", x.about(2), 7);
        due.is("its marking too", x.tokens(2), 1);
        due.is("its graph too", x.graph(0) > 2, true);
        x.set(0, 0);
        int[] dead = {0b011, 0b110, 1, 0, 0, 1};
        for (int what = 0; what < 6; what++) {
            due.is("reduced(" + what + ") when dead", x.reduced(what), dead[what]);
        }
        TokenSums y = Due.net("place x 2; place y; place z 2; step s takes x gives 2 y takes z gives z; step t gives x takes x takes x gives x gives x;");
        due.is("reduce()", y.reduce(), 1);
        due.is("reduced(3)", y.reduced(3), 1);
        due.is("reduced(2)", y.reduced(2), 300);
        due.is("reduced(4)", y.reduced(4) >= 0, true);
        TokenSums z = Due.net("place a 3; place b; step s takes a gives b;");
        due.is("reduced(0) of what goes whole", z.reduced(0), 0);
        due.is("reduced(1)", z.reduced(1), 0);
        due.is("reduced(2)", z.reduced(2), 1);
        due.is("reduced(5)", z.reduced(5), 1);
        due.is("reduced(4)", z.reduced(4), 0);
    }

    private static void become(Due due) {
        TokenSums x = Due.net(CORE);
        due.is("become() where none fits", x.become(), NONE);
        due.is("is no act", x.about(5), 0);
        Due.lay(x, CORE + "step t takes 2 x gives 2 x; place z 3;");
        x.net();
        x.aim(1, 3);
        due.is("become()", x.become(), 2);
        due.is("about(5)", x.about(5), 1);
        due.is("about(0)", x.about(0), 2);
        due.is("about(1)", x.about(1), 2);
        due.is("reduce() behind it", x.reduce(), 0);
        due.is("become() again", x.become(), NONE);
        due.is("counts(-1): the aim stays", x.counts(-1), 1);
        due.is("counts(0)", x.counts(0), 1);
        due.is("reaches()", x.reaches(), 1);
        due.is("fire(0)", x.fire(0), 2);
        due.is("undo()", x.undo(), true);
        due.is("undo()", x.undo(), true);
        due.is("about(0) undone", x.about(0), 3);
        due.is("about(1) undone", x.about(1), 3);
        due.is("tokens(2) undone", x.tokens(2), 3);
        due.is("reduce() undone", x.reduce(), 2);
        due.is("graph(0) undone", x.graph(0), 2);
        due.is("counts(-1): z is not aimed at", x.counts(-1), NONE);
        due.is("siphons(0) undone", x.siphons(0), 2);
        due.is("sums(0) undone", x.sums(0), 2);
    }

    /** As many places and steps as there can be: all but one place and, of the steps, all go. */
    private static void largest(Due due) {
        StringBuilder text = new StringBuilder();
        for (int i = 0; i < 10; i++) {
            text.append("place ").append((char) ('a' + i)).append(" 1;");
        }
        for (int i = 0; i < 8; i++) {
            text.append("step ").append((char) ('p' + i)).append(" takes ").append((char) ('a' + i)).append(" gives ").append((char) ('b' + i)).append(';');
        }
        TokenSums x = Due.net(text.toString());
        due.is("kind(0)", x.kind(0), 1);
        due.is("kind(1)", x.kind(1), 0);
        due.is("kind(2)", x.kind(2), 1);
        due.is("can()", x.can(), 255);
        due.is("about(4)", x.about(4), 10);
        due.is("graph(1)", x.graph(1), 1);
        due.is("live(7)", x.live(7), 0);
        // j is idle at once; then a to h are joined to i, one by one, which is idle then.
        due.is("reduce()", x.reduce(), 10);
        due.is("rule(0,0)", x.rule(0, 0), 3);
        due.is("rule(0,1)", x.rule(0, 1), 9);
        for (int i = 0; i < 8; i++) {
            due.is("rule(" + (i + 1) + ",0)", x.rule(i + 1, 0), 6);
            due.is("rule(" + (i + 1) + ",1)", x.rule(i + 1, 1), i);
            due.is("rule(" + (i + 1) + ",2)", x.rule(i + 1, 2), i);
        }
        due.is("rule(9,1)", x.rule(9, 1), 8);
        due.is("rule(10,0)", x.rule(10, 0), NONE);
        due.is("become()", x.become(), 10);
        due.is("about(2)", x.about(2), 0);
        due.is("about(3)", x.about(3), 0);
        due.is("can()", x.can(), 0);
        due.is("kind(0)", x.kind(0), 1);
        due.is("undo()", x.undo(), true);
        due.is("tokens(9)", x.tokens(9), 1);
        due.is("can()", x.can(), 255);
    }

    private static void wrong(Due due) {
        TokenSums x = Due.net(CORE + "place z;");
        due.is("rule(0,3)", x.rule(0, 3), NONE);
        due.is("rule(0,-1)", x.rule(0, -1), NONE);
        due.is("rule(-1,0)", x.rule(-1, 0), NONE);
        due.is("rule(1,0)", x.rule(1, 0), NONE);
        due.is("rule(MAX,0)", x.rule(Integer.MAX_VALUE, 0), NONE);
        due.is("reduced(6)", x.reduced(6), NONE);
        due.is("reduced(-1)", x.reduced(-1), NONE);
        // Without reduce() ahead: what the present marking leads to.
        due.is("rule(0,0)", x.rule(0, 0), 3);
        x.become();
        due.is("rule(0,0) behind become()", x.rule(0, 0), NONE);
    }
}
