/** Promises 6 to 9: about, arc, tokens, kind. */
public final class NetTest {
    private static final int NONE = TokenSums.NONE;
    private static final int NO_ARC = Integer.MIN_VALUE;

    public static void main(String[] args) {
        Due due = new Due("NetTest");
        about(due);
        arcs(due);
        goneOnes(due);
        kinds(due);
        ranks(due);
        due.close();
    }

    private static void about(Due due) {
        TokenSums x = Due.net("place a 7; place b 99; place c; step s takes a gives b; step t;");
        int[] want = {3, 2, 7, 3, 106, 0, 0, 1};
        for (int what = 0; what < 8; what++) {
            due.is("about(" + what + ")", x.about(what), want[what]);
        }
        due.is("about(8)", x.about(8), NONE);
        due.is("about(-1)", x.about(-1), NONE);
        due.is("about(MIN)", x.about(Integer.MIN_VALUE), NONE);
        x.fire(0);
        due.is("about(5) behind an act", x.about(5), 1);
        due.is("about(4) stays", x.about(4), 106);
        x.feed(1, 2, 3, 4, 5);
        due.is("about(6) behind feed", x.about(6), 20);
    }

    private static void arcs(Due due) {
        TokenSums x = Due.net("place a; place b; step s takes 3 a gives 2 b gives a; step t gives b;");
        due.is("arc(0,0,0)", x.arc(0, 0, 0), 3);
        due.is("arc(0,0,1)", x.arc(0, 0, 1), 1);
        due.is("arc(0,0,2)", x.arc(0, 0, 2), -2);
        due.is("arc(0,1,0)", x.arc(0, 1, 0), 0);
        due.is("arc(0,1,1)", x.arc(0, 1, 1), 2);
        due.is("arc(0,1,2)", x.arc(0, 1, 2), 2);
        due.is("arc(1,1,2)", x.arc(1, 1, 2), 1);
        int[][] none = {{2, 0, 0}, {-1, 0, 0}, {0, 2, 0}, {0, -1, 0}, {0, 0, 3}, {0, 0, -1}, {8, 0, 0}, {0, 10, 0},
                {Integer.MAX_VALUE, 0, 0}, {0, Integer.MIN_VALUE, 0}};
        for (int[] n : none) {
            due.is("arc of none", x.arc(n[0], n[1], n[2]), NO_ARC);
        }
        due.is("tokens(2)", x.tokens(2), NONE);
        due.is("tokens(-1)", x.tokens(-1), NONE);
        due.is("tokens(10)", x.tokens(10), NONE);
        due.is("tokens(1)", x.tokens(1), 0);
    }

    /** Behind become() what is gone is none. Here rule 6 takes step s and place a away. */
    private static void goneOnes(Due due) {
        TokenSums x = Due.net("place a 4; place b 1; place c 2; step s takes a gives b; step t takes 2 b gives 3 c;"
                + "step u takes c takes b gives 2 a;");
        due.is("become()", x.become(), 1);
        int[] want = {2, 2, 6, 6, 7, 1, 0, 2};
        for (int what = 0; what < 8; what++) {
            due.is("about(" + what + ") behind become", x.about(what), want[what]);
        }
        due.is("tokens(0)", x.tokens(0), NONE);
        due.is("tokens(1)", x.tokens(1), 5);
        due.is("arc(0,1,0)", x.arc(0, 1, 0), NO_ARC);
        due.is("arc(1,0,0)", x.arc(1, 0, 0), NO_ARC);
        due.is("arc(2,1,1)", x.arc(2, 1, 1), 2);
        due.is("set(0,5)", x.set(0, 5), NONE);
        due.is("fire(0)", x.fire(0), NONE);
        due.is("aim(0,5)", x.aim(0, 5), NONE);
        due.is("live(0)", x.live(0), NONE);
        due.is("most(0)", x.most(0), NONE);
        due.is("bound(0)", x.bound(0), NONE);
        due.is("marking(0,0)", x.marking(0, 0), NONE);
        due.is("marking(0,1)", x.marking(0, 1), 5);
        due.is("isSiphon(0,1)", x.isSiphon(0, 1), 0);
        due.is("greatest(0,1)", x.greatest(0, 1), 0);
        due.is("undo()", x.undo(), true);
        due.is("tokens(0) undone", x.tokens(0), 4);
        due.is("arc(2,0,1) undone", x.arc(2, 0, 1), 2);
        due.is("about(2) undone", x.about(2), 7);
        due.is("about(3) undone", x.about(3), 7);
    }

    private static void kinds(Due due) {
        kind(due, "place a; place b; step s takes a gives b; step t takes b gives a;", 1, 1, 1);
        kind(due, "place a; step s takes a gives a;", 1, 1, 1);
        kind(due, "place a; place b; step s takes a gives b; step t takes a gives a;", 1, 0, 1);
        kind(due, "place a; place b; step s takes 2 a gives 2 b; step t takes 2 b gives 2 a;", 0, 0, 1);
        kind(due, "place a; place b; step s takes a takes b gives a gives b;", 0, 1, 1);
        kind(due, "place a; place b; step s takes a takes b; step t takes a;", 0, 0, 0);
        kind(due, "place a; place b; step s takes a takes b; step t takes b takes a gives a;", 0, 0, 1);
        kind(due, "place a; step s takes 2 a gives a; step t takes a gives a;", 0, 0, 0);
        kind(due, "place a; step s gives a;", 0, 0, 1);
        kind(due, "place a; step s takes a;", 0, 0, 1);
        kind(due, "place a;", 1, 0, 1);
        kind(due, "step s;", 0, 1, 1);
        TokenSums x = new TokenSums();
        due.is("kind(3)", x.kind(3), NONE);
        due.is("kind(-1)", x.kind(-1), NONE);
    }

    private static void kind(Due due, String text, int... want) {
        TokenSums x = Due.net(text);
        for (int what = 0; what < 3; what++) {
            due.is("kind(" + what + ") of " + text, x.kind(what), want[what]);
        }
    }

    private static void ranks(Due due) {
        due.is("rank of a self-loop", Due.net("place a; step s takes a gives a;").about(7), 0);
        due.is("rank of like steps", Due.net("place a; place b; step s takes a gives b; step t takes a gives b;").about(7), 1);
        due.is("rank of multiples", Due.net("place a; place b; step s takes a gives 2 b; step t takes 2 b gives a;").about(7), 1);
        due.is("rank of two", Due.net("place a; place b; step s takes a gives 2 b; step t takes b gives a;").about(7), 2);
        StringBuilder text = new StringBuilder();
        for (int i = 0; i < 10; i++) {
            text.append("place ").append((char) ('a' + i)).append(';');
        }
        for (int i = 0; i < 8; i++) {
            text.append("step ").append((char) ('p' + i)).append(" takes ").append((char) ('a' + i)).append(';');
        }
        due.is("rank of eight", Due.net(text.toString()).about(7), 8);
    }
}
