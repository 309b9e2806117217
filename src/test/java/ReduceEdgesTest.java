/** The edges of promises 36 to 39 and of RULES 1 to 6 and REDUCED, a sentence each. */
public final class ReduceEdgesTest {
    private static final int NONE = TokenSums.NONE;
    private static final int[] FAR = {-1, -2, 32, 64, Integer.MAX_VALUE, Integer.MIN_VALUE};

    // A core that no rule makes smaller: its arcs are too heavy for rules 5 and 6.
    private static final String CORE = "place x 2;place y;step v takes 2 x gives 3 y;step w takes 3 y gives 2 x;";

    public static void main(String[] args) {
        Due due = new Due("ReduceEdgesTest");
        likePlaces(due);
        likeSteps(due);
        idlePlace(due);
        idleStep(due);
        joinStepsOnlyEmpty(due);
        joinStepsJustOne(due);
        joinStepsEachOne(due);
        joinStepsAlone(due);
        joinStepsGives(due);
        joinPlacesOneAlone(due);
        joinPlacesNoOther(due);
        joinPlacesTokens(due);
        joinPlacesGives(due);
        notMoreThan3(due);
        notMoreThan999(due);
        firstByNumber(due);
        firstByFirstNumber(due);
        presentTokens(due);
        numbersStay(due);
        tillNoneFits(due);
        ruleOfNone(due);
        reducedNet(due);
        anotherReduced(due);
        becomeRefused(due);
        becomeIsAnAct(due);
        due.close();
    }

    /** The rules that are due, {number, place, step} each. */
    private static void rules(Due due, TokenSums x, String text, int[]... want) {
        due.is("reduce() of " + text, x.reduce(), want.length);
        for (int i = 0; i < want.length; i++) {
            for (int what = 0; what < 3; what++) {
                due.is("rule(" + i + ", " + what + ") of " + text, x.rule(i, what), want[i][what]);
            }
        }
        due.is("rule behind the last of " + text, x.rule(want.length, 0), NONE);
    }

    private static void rules(Due due, String text, int[]... want) {
        rules(due, Due.net(text), text, want);
    }

    private static int[] r(int number, int place, int step) {
        return new int[] {number, place, step};
    }

    /** Rule 3 takes z, rule 4 takes t. */
    private static TokenSums two() {
        TokenSums x = Due.net(CORE + "place z 3;step t takes 2 x gives 2 x;");
        x.aim(1, 3);
        x.fire(0);
        return x;
    }

    // "1: two PLACES p, q (p below q), from which all STEPS take the same and to which they give the
    // same, p with as many TOKENS as q or fewer: q goes."
    private static void likePlaces(Due due) {
        String steps = "step v takes 2 x takes 2 z gives 3 y;step w takes 3 y gives 2 x gives 2 z;";
        rules(due, "place x 4;place y;place z 5;" + steps, r(1, 2, NONE));
        rules(due, "place x 5;place y;place z 5;" + steps, r(1, 2, NONE));
        rules(due, "place x 6;place y;place z 5;" + steps);
        rules(due, "place x;place y;place z;" + steps, r(1, 2, NONE));
        rules(due, "place x 1;place y;place z;" + steps);
        rules(due, "place x;place y;place z 99;" + steps, r(1, 2, NONE));
        rules(due, "place x 2;place y;place z 2;step v takes 2 x takes 3 z gives 3 y;step w takes 3 y gives 2 x gives 2 z;");
        rules(due, "place x 2;place y;place z 2;step v takes 2 x takes 2 z gives 3 y;step w takes 3 y gives 2 x gives 3 z;");
        // q goes, the higher number, though p has fewer TOKENS.
        TokenSums x = Due.net("place x 1;place y;place z 5;" + steps);
        x.become();
        due.is("about(2)", x.about(2), 3);
        due.is("tokens(0)", x.tokens(0), 1);
        // The last of eight STEPS tells two PLACES apart.
        String seven = "place a;place b;step p takes a takes b;step q takes 2 a takes 2 b;step r takes 3 a takes 3 b;"
                + "step s gives a gives b;step t gives 2 a gives 2 b;step u gives 3 a gives 3 b;step v takes a gives 2 a takes b gives 2 b;";
        rules(due, seven + "step w takes a takes b gives 3 a gives 2 b;");
        due.is("alike", Due.net(seven + "step w takes a takes b gives 3 a gives 3 b;").rule(0, 0), 1);
    }

    // "2: two STEPS (s below t) that take and give the same: t goes."
    private static void likeSteps(Due due) {
        rules(due, CORE + "step t takes 2 x gives 3 y;", r(2, NONE, 2));
        rules(due, CORE + "step t takes 3 y gives 2 x;", r(2, NONE, 2));
        rules(due, CORE + "step t takes 3 x gives 3 y;");
        rules(due, CORE + "step t takes x gives 3 y;");
        rules(due, CORE + "step t takes 2 x gives 2 y;");
        rules(due, CORE + "step t takes 2 x gives 3 y gives x;");
        rules(due, "step s;step t;", r(2, NONE, 1));
        rules(due, "step s;");
        // Two that take the same where it matters, but the tenth PLACE tells them apart.
        String ten = "place a;place b;place c;place d;place e;place f;place g;place h;place i;place j;"
                + "step s takes a takes b gives 3 j;step t takes a takes b gives 2 j;";
        TokenSums x = Due.net(ten);
        for (int i = 0; i < x.reduce(); i++) {
            due.is("no rule 2", x.rule(i, 0) != 2, true);
        }
    }

    // "3: a PLACE p to which each STEP gives what it takes from it, and that has as many TOKENS as the
    // most of these: it goes."
    private static void idlePlace(Due due) {
        String steps = "step v takes 2 x takes 2 z gives 3 y gives 2 z;step w takes 3 y takes z gives z gives 2 x;";
        rules(due, "place x 2;place y;place z;" + steps);
        rules(due, "place x 2;place y;place z 1;" + steps);
        rules(due, "place x 2;place y;place z 2;" + steps, r(3, 2, NONE));
        rules(due, "place x 2;place y;place z 3;" + steps, r(3, 2, NONE));
        rules(due, CORE + "place z;", r(3, 2, NONE));
        rules(due, CORE + "place z 99;", r(3, 2, NONE));
        rules(due, "place x 2;place y;place z 9;step v takes 2 x takes 2 z gives 3 y gives 3 z;step w takes 3 y takes z gives z gives 2 x;");
        rules(due, "place x 2;place y;place z 9;step v takes 2 x takes 2 z gives 3 y gives 2 z;step w takes 3 y takes 2 z gives z gives 2 x;");
        rules(due, "place a;", r(3, 0, NONE));
    }

    // "4: a STEP s that gives each PLACE what it takes: it goes, if there is another STEP."
    private static void idleStep(Due due) {
        rules(due, CORE + "step t takes 2 x gives 2 x;", r(4, NONE, 2));
        rules(due, CORE + "step t takes 2 x takes y gives y gives 2 x;", r(4, NONE, 2));
        rules(due, CORE + "step t;", r(4, NONE, 2));
        rules(due, CORE + "step t takes 2 x gives 3 x;");
        rules(due, CORE + "step t takes 2 x takes y gives 2 x;");
        rules(due, "place a;step s takes a gives a;");
        rules(due, "place a;step s takes a gives a;step t takes 2 a gives 2 a;", r(4, NONE, 0));
        rules(due, "place a 1;step s takes a gives a;step t takes 2 a gives 2 a;", r(4, NONE, 0));
        rules(due, "place a 2;step s takes a gives a;step t takes 2 a gives 2 a;", r(3, 0, NONE), r(2, NONE, 1));
    }

    private static String five(String p, String s, String t, String w) {
        return "place x 2;place y;place p" + p + ";step s takes 2 x gives " + s + ";step t takes " + t + ";step w takes 3 y " + w + " gives 2 x;";
    }

    // "5: a PLACE p without TOKENS".
    private static void joinStepsOnlyEmpty(Due due) {
        rules(due, five("", "p gives y", "p gives 2 y", ""), r(5, 2, 1));
        rules(due, five(" 0", "p gives y", "p gives 2 y", ""), r(5, 2, 1));
        rules(due, five(" 1", "p gives y", "p gives 2 y", ""));
        rules(due, five(" 99", "p gives y", "p gives 2 y", ""));
    }

    // "with just one STEP s that gives to it, just one other STEP t that takes from it".
    private static void joinStepsJustOne(Due due) {
        rules(due, five("", "y", "p gives 2 y", ""));
        rules(due, five("", "p gives y", "2 x gives 2 y", ""));
        rules(due, five("", "p gives y", "p gives 2 y", "gives p"));
        rules(due, five("", "p gives y", "p gives 2 y", "takes p"));
        rules(due, five("", "p gives y", "p gives 2 y gives p", ""));
        rules(due, five("", "p gives y takes p", "p gives 2 y", ""));
        // One and the same STEP is no other.
        rules(due, "place x 2;place y;place p;step s takes 2 x takes p gives p gives 3 y;step w takes 3 y gives 2 x;");
        rules(due, "place x 2;place y;place p;step s takes p gives p gives 3 y;step w takes 3 y gives 2 x;");
    }

    // "each 1 TOKEN".
    private static void joinStepsEachOne(Due due) {
        rules(due, five("", "2 p gives y", "p gives 2 y", ""));
        rules(due, five("", "p gives y", "2 p gives 2 y", ""));
        rules(due, five("", "2 p gives y", "2 p gives 2 y", ""));
    }

    // "t taking from p alone".
    private static void joinStepsAlone(Due due) {
        rules(due, five("", "p gives y", "p takes x gives 2 y", ""));
        rules(due, five("", "p gives y", "p takes y gives 2 y", ""));
    }

    // "p goes, t goes, and s gives also what t gives."
    private static void joinStepsGives(Due due) {
        TokenSums x = Due.net(five("", "p gives y", "p gives 2 y gives x", ""));
        due.is("become()", x.become(), 1);
        due.is("about(2)", x.about(2), 3);
        due.is("about(3)", x.about(3), 5);
        due.is("arc(0, 0, 0)", x.arc(0, 0, 0), 2);
        due.is("arc(0, 0, 1)", x.arc(0, 0, 1), 1);
        due.is("arc(0, 1, 1)", x.arc(0, 1, 1), 3);
        due.is("arc(2, 1, 0)", x.arc(2, 1, 0), 3);
        // The same with p as place 0, t as step 0.
        rules(due, "place p;place x 2;place y;step t takes p gives 2 y;step s takes 2 x gives p gives y;step w takes 3 y gives 2 x;", r(5, 0, 0));
        // t may give nothing.
        rules(due, five("", "p gives 3 y", "p", ""), r(5, 2, 1));
    }

    private static String six(String p, String y, String s, String t, String w) {
        return "place x 2;place y" + y + ";place p" + p + ";step s " + s + ";step t takes 2 x gives " + t + ";step w takes 3 y " + w + " gives 2 x;";
    }

    // "6: a STEP s that takes from one PLACE p alone, gives to another PLACE q alone, each 1 TOKEN".
    private static void joinPlacesOneAlone(Due due) {
        rules(due, six("", "", "takes p gives y", "2 p gives y", ""), r(6, 2, 0));
        rules(due, six("", "", "takes 2 p gives y", "2 p gives y", ""));
        rules(due, six("", "", "takes p gives 2 y", "2 p gives y", ""));
        rules(due, six("", "", "takes p takes x gives y", "2 p gives y", ""));
        rules(due, six("", "", "takes p gives y gives x", "2 p gives y", ""));
        rules(due, six("", "", "takes p", "2 p gives y", ""));
        rules(due, six("", "", "gives y", "2 p gives y", ""));
        // Another PLACE: p to p is none.
        rules(due, "place p;step s takes p gives p;");
    }

    // "no other STEP takes from p".
    private static void joinPlacesNoOther(Due due) {
        rules(due, six("", "", "takes p gives y", "2 p gives y", "takes p"));
        rules(due, six("", "", "takes p gives y", "2 p gives y", "takes 3 p"));
        rules(due, six("", "", "takes p gives y", "2 p takes p gives y", ""));
        // Others may give to it, and take from q.
        rules(due, six("", "", "takes p gives y", "2 p gives y", "gives 3 p"), r(6, 2, 0));
    }

    // "s goes, p goes, and q has p's TOKENS more, and STEPS that give to p give that to q."
    private static void joinPlacesTokens(Due due) {
        for (int p = 0; p < 4; p++) {
            TokenSums x = Due.net(six(" " + p, " 5", "takes p gives y", "2 p gives y", ""));
            due.is("become()", x.become(), 1);
            due.is("tokens(1)", x.tokens(1), 5 + p);
            due.is("tokens(2)", x.tokens(2), NONE);
            due.is("about(2)", x.about(2), 3);
            due.is("about(3)", x.about(3), 6);
            due.is("about(4)", x.about(4), 7 + p);
        }
    }

    private static void joinPlacesGives(Due due) {
        TokenSums x = Due.net(six(" 1", "", "takes p gives y", "2 p gives y", "gives 3 p"));
        due.is("become()", x.become(), 1);
        due.is("arc(1, 1, 1): 2 and 1", x.arc(1, 1, 1), 3);
        due.is("arc(2, 1, 1): 3", x.arc(2, 1, 1), 3);
        due.is("arc(2, 1, 0) stays", x.arc(2, 1, 0), 3);
        due.is("arc(1, 0, 0) stays", x.arc(1, 0, 0), 2);
    }

    // "(5, 6 do not fit, if some STEP would then give more than 3 TOKENS to one PLACE".
    private static void notMoreThan3(Due due) {
        rules(due, five("", "p", "p gives 3 y", ""), r(5, 2, 1));
        rules(due, five("", "p gives y", "p gives 3 y", ""));
        rules(due, five("", "p gives 2 y", "p gives 2 y", ""));
        rules(due, five("", "p gives 3 y", "p gives 2 x", ""), r(5, 2, 1));
        rules(due, five("", "p gives 3 y", "p gives 3 x", ""), r(5, 2, 1));
        rules(due, five("", "p gives 3 y gives x", "p gives 3 x", ""));
        rules(due, five("", "p gives 3 y gives x", "p gives 2 x", ""), r(5, 2, 1));
        rules(due, six("", "", "takes p gives y", "3 p", ""), r(6, 2, 0));
        rules(due, six("", "", "takes p gives y", "3 p gives y", ""));
        rules(due, six("", "", "takes p gives y", "2 p gives 2 y", ""));
        rules(due, six("", "", "takes p gives y", "2 p gives y", "gives 3 p gives y"));
        rules(due, six("", "", "takes p gives y", "2 p gives y", "gives 2 p gives y"), r(6, 2, 0));
        // The same with the STEP that would give 3 or 4 as step 0.
        String head = "place x 2;place y;place p;step t takes 2 x gives 2 p gives ";
        String tail = "y;step s takes p gives y;step w takes 3 y gives 2 x;";
        rules(due, head + tail, r(6, 2, 1));
        rules(due, head + "2 " + tail);
    }

    // "6 neither, if q had more than 999 then."
    private static void notMoreThan999(Due due) {
        String text = six("", "", "takes p gives y", "2 p gives y", "");
        int[][] row = {{0, 999, 1}, {999, 0, 1}, {1, 998, 1}, {500, 499, 1}, {1, 999, 0}, {999, 1, 0}, {500, 500, 0}, {999, 999, 0}};
        for (int[] n : row) {
            TokenSums x = Due.net(text);
            x.set(1, n[0]);
            x.set(2, n[1]);
            due.is("reduce() with " + n[0] + " and " + n[1], x.reduce(), n[2]);
            due.is("become() with " + n[0] + " and " + n[1], x.become(), n[2] == 1 ? 1 : NONE);
            due.is("tokens(1)", x.tokens(1), n[2] == 1 ? 999 : n[0]);
        }
    }

    // "the first that fits, by its number".
    private static void firstByNumber(Due due) {
        rules(due, CORE + "place a 3;place b 3;step t takes 2 x gives 3 y;", r(1, 3, NONE), r(2, NONE, 2), r(3, 2, NONE));
        rules(due, CORE + "place a 3;step t takes 2 x gives 3 y;step u takes y gives y;", r(2, NONE, 2), r(3, 2, NONE), r(4, NONE, 3));
        rules(due, CORE + "step t takes 2 x gives 2 x;place a 3;", r(3, 2, NONE), r(4, NONE, 2));
        rules(due, five("", "p gives y", "p gives 2 y", "") + "step u takes 2 x gives 2 x;", r(4, NONE, 3), r(5, 2, 1));
        // 5 fits at place 3, 6 at step 0, and 5 is the first.
        rules(due, "place x 2;place y;place r;place p;step z takes r gives y;step s takes 2 x gives p gives 2 r;step t takes p gives y;step w takes 3 y gives 2 x;",
                r(5, 3, 2), r(6, 2, 0));
        // What 6 makes of the net, an earlier rule may fit: a goes into b, t moves b to b then.
        rules(due, "place a 1;place b;step s takes a gives b;step t takes b gives a;", r(5, 1, 1), r(3, 0, NONE));
        rules(due, "place a 1;place b 1;step s takes a gives b;step t takes b gives a;", r(6, 0, 0), r(3, 1, NONE));
    }

    // "then its first number, then its second".
    private static void firstByFirstNumber(Due due) {
        // Rule 1 fits 0, 3 and 1, 2.
        rules(due, "place a 2;place b 3;place c 3;place d 2;step v takes 2 a takes 2 d gives 3 b gives 3 c;step w takes 3 b takes 3 c gives 2 a gives 2 d;",
                r(1, 3, NONE), r(1, 2, NONE));
        // Rule 1 fits 0, 1 and 0, 2 and 1, 2.
        rules(due, "place a 2;place b 2;place c 2;place y;step v takes 2 a takes 2 b takes 2 c gives 3 y;step w takes 3 y gives 2 a gives 2 b gives 2 c;",
                r(1, 1, NONE), r(1, 2, NONE));
        // Rule 1 does not fit 0, 1; it fits 0, 2 and 1, 2; then 0, 1 are left.
        rules(due, "place a 3;place b 2;place c 4;place y;step v takes 2 a takes 2 b takes 2 c gives 3 y;step w takes 3 y gives 2 a gives 2 b gives 2 c;",
                r(1, 2, NONE));
        // Rule 2 fits 0, 3 and 1, 2.
        rules(due, CORE + "step t takes 3 y gives 2 x;step u takes 2 x gives 3 y;", r(2, NONE, 3), r(2, NONE, 2));
        rules(due, "step s;step t;step u;", r(2, NONE, 1), r(2, NONE, 2));
        rules(due, "place a 9;place b;" + "step v takes 3 a gives 3 a;step w takes 2 b gives 3 b;" + "place c 5;step u takes 2 c gives 2 c takes b gives 2 b;",
                r(3, 0, NONE), r(3, 2, NONE), r(4, NONE, 0));
        rules(due, CORE + "step t takes x gives x;step u takes 2 x gives 2 x;", r(4, NONE, 2), r(4, NONE, 3));
        // Rule 5 fits q (1) with s, t and p (2) with t, u.
        rules(due, "place x 2;place q;place p;place y;step u takes p gives 2 y;step t takes q gives p gives y;step s takes 2 x gives q;step w takes 3 y gives 2 x;",
                r(5, 1, 1), r(5, 2, 0));
        // Rule 6 fits step 0 with place 1 and step 1 with place 0.
        rules(due, "place a 1;place b 1;place c 1;step s takes b gives c;step t takes a gives b;", r(6, 1, 0), r(6, 0, 1), r(3, 2, NONE));
    }

    // "(TOKENS as at the beginning of reduce())": those of the present MARKING, not those told.
    private static void presentTokens(Due due) {
        String steps = "step v takes 2 x takes 2 z gives 3 y gives 2 z;step w takes 3 y gives 2 x;";
        TokenSums x = Due.net("place x 2;place y;place z 1;" + steps);
        rules(due, x, "z 1");
        x.set(2, 2);
        rules(due, x, "z 2", r(3, 2, NONE));
        x.set(2, 1);
        rules(due, x, "z 1 again");
        x.undo();
        rules(due, x, "z 2 again", r(3, 2, NONE));
        TokenSums y = Due.net(five("", "p gives y", "p gives 2 y", ""));
        rules(due, y, "p 0", r(5, 2, 1));
        y.fire(0);
        rules(due, y, "p 1");
        y.fire(1);
        rules(due, y, "p 0 again", r(5, 2, 1));
        // What rule 6 has moved counts: q has a TOKEN then, so rule 5 does not fit it.
        String moved = ";place q;step s takes p gives q;step t takes q gives 3 y;step u takes 2 x gives q;step w takes 3 y gives 2 x;";
        rules(due, "place x 2;place y;place p 1" + moved, r(6, 2, 0));
        rules(due, "place x 2;place y;place p" + moved, r(6, 2, 0), r(5, 3, 1));
    }

    // "Numbers stay as they are; a PLACE, a STEP that is gone is none."
    private static void numbersStay(Due due) {
        TokenSums x = Due.net("place z 7;place x 2;place y;step t;step v takes 2 x gives 3 y;step w takes 3 y gives 2 x;");
        due.is("reduced(0)", x.reduced(0), 6);
        due.is("reduced(1)", x.reduced(1), 6);
        due.is("become()", x.become(), 2);
        due.is("tokens(0)", x.tokens(0), NONE);
        due.is("tokens(1)", x.tokens(1), 2);
        due.is("fire(0)", x.fire(0), NONE);
        due.is("fire(1)", x.fire(1), 4);
        due.is("arc(1, 1, 0)", x.arc(1, 1, 0), 2);
        due.is("arc(0, 1, 0)", x.arc(0, 1, 0), Integer.MIN_VALUE);
        // What was like a PLACE, a STEP that is gone is like none: no rule fits any more.
        due.is("reduce()", x.reduce(), 0);
    }

    // Promise 36: "How many RULES are done till none fits": from none to seventeen.
    private static void tillNoneFits(Due due) {
        due.nothing("reduce() of none", () -> Due.net(CORE), t -> t.reduce(), 0);
        due.nothing("reduce() of two", ReduceEdgesTest::two, t -> t.reduce(), 2);
        due.is("reduce() of a new object", new TokenSums().reduce(), 0);
        TokenSums x = Due.net("place a;place b;place c;place d;place e;place f;place g;place h;place i;place j;"
                + "step p;step q;step r;step s;step t;step u;step v;step w;");
        int[][] want = new int[17][];
        for (int i = 0; i < 9; i++) {
            want[i] = r(1, i + 1, NONE);
        }
        for (int i = 0; i < 7; i++) {
            want[9 + i] = r(2, NONE, i + 1);
        }
        want[16] = r(3, 0, NONE);
        rules(due, x, "ten and eight", want);
        due.is("become()", x.become(), 17);
        due.is("about(2)", x.about(2), 0);
        due.is("about(3): the last step stays", x.about(3), 1);
        due.is("become() again", x.become(), NONE);
        tenPlaces(due);
        eightSteps(due);
    }

    /** c to i (2 .. 8), which no step knows, go first; then j by rule 5, or a step by rule 4. */
    private static void tenPlaces(Due due) {
        String ten = "place a 2;place b;place c;place d;place e;place f;place g;place h;place i;place j;";
        String five = ten + "step s takes 2 a gives j gives b;step v takes 3 b gives 3 a;step t takes j gives 2 b;step w takes 2 b gives 3 a;";
        int[][] six = {r(1, 3, NONE), r(1, 4, NONE), r(1, 5, NONE), r(1, 6, NONE), r(1, 7, NONE), r(1, 8, NONE)};
        rules(due, five, six[0], six[1], six[2], six[3], six[4], six[5], r(3, 2, NONE), r(5, 9, 2));
        TokenSums x = Due.net(five);
        due.is("become()", x.become(), 8);
        due.is("arc(0, 1, 1)", x.arc(0, 1, 1), 3);
        due.is("arc(1, 0, 1) stays", x.arc(1, 0, 1), 3);
        due.is("arc(3, 0, 1) stays", x.arc(3, 0, 1), 3);
        rules(due, ten + "step u takes a gives a;step v takes 2 a gives 3 b;step w takes 3 b gives 2 a;",
                six[0], six[1], six[2], six[3], six[4], six[5], r(1, 9, NONE), r(3, 2, NONE), r(4, NONE, 0));
    }

    /** A line of nine places: each goes into the next by rule 6, the last is idle then. */
    private static void eightSteps(Due due) {
        StringBuilder text = new StringBuilder();
        int[][] want = new int[9][];
        for (int i = 0; i < 9; i++) {
            text.append("place ").append((char) ('a' + i)).append(" 1;");
        }
        for (int i = 0; i < 8; i++) {
            text.append("step ").append((char) ('p' + i)).append(" takes ").append((char) ('a' + i));
            text.append(" gives ").append((char) ('b' + i)).append(';');
            want[i] = r(6, i, i);
        }
        want[8] = r(3, 8, NONE);
        rules(due, text.toString(), want);
    }

    // Promise 37: "NONE if there is none such, or for another what."
    private static void ruleOfNone(Due due) {
        rules(due, two(), "two", r(3, 2, NONE), r(4, NONE, 2));
        for (int what = 0; what < 3; what++) {
            int w = what;
            due.nothing("rule(2, " + w + ")", ReduceEdgesTest::two, t -> t.rule(2, w));
            due.nothing("rule(18, " + w + ")", ReduceEdgesTest::two, t -> t.rule(18, w));
            for (int i : FAR) {
                due.nothing("rule(" + i + ", " + w + ")", ReduceEdgesTest::two, t -> t.rule(i, w));
            }
        }
        due.nothing("rule(0, 3)", ReduceEdgesTest::two, t -> t.rule(0, 3));
        due.nothing("rule(1, 4)", ReduceEdgesTest::two, t -> t.rule(1, 4));
        for (int what : FAR) {
            due.nothing("rule(0, " + what + ")", ReduceEdgesTest::two, t -> t.rule(0, what));
        }
        due.nothing("rule(0, 0) where none fits", () -> Due.net(CORE), t -> t.rule(0, 0));
    }

    private static void reduced(Due due, TokenSums x, int... want) {
        for (int what = 0; what < want.length; what++) {
            due.is("reduced(" + what + ")", x.reduced(what), want[what]);
        }
    }

    // Promise 38: REDUCED and its GRAPH, up to 300 and FULL; "REDUCED is the net behind as many RULES as
    // can be done", the net itself if none can.
    private static void reducedNet(Due due) {
        reduced(due, new TokenSums(), 0, 0, 1, 0, 0, 1);
        reduced(due, Due.net(CORE), 3, 3, 2, 0, 3, 0);
        reduced(due, two(), 3, 3, 2, 0, 3, 0);
        TokenSums x = Due.net("place z 1;place a;place b;step s takes 2 a gives 3 b;");
        x.set(1, 1);
        reduced(due, x, 6, 1, 1, 0, 0, 1);
        x.set(1, 596);
        reduced(due, x, 6, 1, 299, 0, 0, 1);
        x.set(1, 598);
        reduced(due, x, 6, 1, 300, 0, 0, 1);
        x.set(1, 600);
        reduced(due, x, 6, 1, 300, 1, 1, 0);
        due.is("the net itself stays", x.about(2), 7);
        // It is REDUCED's GRAPH, not the net's: a + b is one PLACE there.
        TokenSums y = Due.net("place a 3;place b;place c;step s takes a gives b;step t takes 2 b gives 3 c;");
        due.is("graph(0)", y.graph(0), 6);
        reduced(due, y, 6, 2, 2, 0, 0, 1);
    }

    // Promise 38: "NONE for another what."
    private static void anotherReduced(Due due) {
        due.nothing("reduced(6)", ReduceEdgesTest::two, t -> t.reduced(6));
        due.nothing("reduced(7)", ReduceEdgesTest::two, t -> t.reduced(7));
        for (int what : FAR) {
            due.nothing("reduced(" + what + ")", ReduceEdgesTest::two, t -> t.reduced(what));
        }
    }

    // Promise 39: "NONE, doing nothing, if none fits."
    private static void becomeRefused(Due due) {
        due.nothing("become() where none fits", () -> {
            TokenSums x = Due.net(CORE);
            x.aim(1, 3);
            x.fire(0);
            return x;
        }, t -> t.become());
        due.nothing("become() a second time", () -> {
            TokenSums x = two();
            x.become();
            return x;
        }, t -> t.become());
        due.nothing("become() of what has one idle step", () -> Due.net("place a;step s takes a gives a;"), t -> t.become());
    }

    // Promise 39: "The NET is REDUCED from now on (AIM stays): how many RULES were done; .. (An ACT.)"
    private static void becomeIsAnAct(Due due) {
        TokenSums x = two();
        due.is("about(5) ahead", x.about(5), 1);
        due.is("become()", x.become(), 2);
        due.is("about(5)", x.about(5), 2);
        due.is("aim stays", x.aim(1, 3), 3);
        TokenSums y = two();
        y.become();
        due.is("undo()", y.undo(), true);
        due.same("become() undone", Look.at(y, true), Look.at(two(), true));
        // One rule is enough.
        TokenSums z = Due.net(CORE + "place z;");
        due.is("become() of one rule", z.become(), 1);
        due.is("about(0)", z.about(0), 2);
    }
}
