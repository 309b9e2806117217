/** The edges of promises 6 to 9 and of RANK, CHANGE and MARKING, a sentence each. */
public final class NetEdgesTest {
    private static final int NONE = TokenSums.NONE;
    private static final int NO_ARC = Integer.MIN_VALUE;
    private static final int[] FAR = {-1, -2, 32, 64, Integer.MAX_VALUE, Integer.MIN_VALUE};

    // Rule 6 takes step s and place a away; nothing more fits.
    private static final String LINE = "place a 4;place b 1;place c 2;step s takes a gives b;"
            + "step t takes 2 b gives 3 c;step u takes c takes b gives 2 a;";

    public static void main(String[] args) {
        Due due = new Due("NetEdgesTest");
        anotherAbout(due);
        thoseThatAreLeft(due);
        allTokens(due);
        actsThatCanBeUndone(due);
        bytesOnTape(due);
        ranks(due);
        arcsOfNone(due);
        changes(due);
        tokensOfNone(due);
        stepMovesOne(due);
        placeHasOneEach(due);
        takeJustAlike(due);
        kindsBehindBecome(due);
        anotherKind(due);
        due.close();
    }

    private static TokenSums line() {
        return Due.net(LINE);
    }

    private static TokenSums lineLeft() {
        TokenSums x = line();
        x.become();
        return x;
    }

    private static String places(int many) {
        StringBuilder text = new StringBuilder();
        for (int i = 0; i < many; i++) {
            text.append("place ").append((char) ('a' + i)).append(';');
        }
        return text.toString();
    }

    // Promise 6: "NONE for another what."
    private static void anotherAbout(Due due) {
        due.nothing("about(8)", NetEdgesTest::line, t -> t.about(8));
        due.nothing("about(9)", NetEdgesTest::line, t -> t.about(9));
        for (int what : FAR) {
            due.nothing("about(" + what + ")", NetEdgesTest::line, t -> t.about(what));
        }
    }

    // Promise 6: "0: PLACES, 1: STEPS (behind become() those that are left), 2: PLACES that there are,
    // 3: STEPS (bits)".
    private static void thoseThatAreLeft(Due due) {
        TokenSums x = line();
        abouts(due, x, 3, 3, 7, 7);
        x.become();
        abouts(due, x, 2, 2, 6, 6);
        x.undo();
        abouts(due, x, 3, 3, 7, 7);
        TokenSums all = Due.net("place a 3;place b;step s takes a gives b;");
        all.become();
        abouts(due, all, 0, 0, 0, 0);
        TokenSums most = Due.net(places(10) + "step p;step q;step r;step s;step t;step u;step v;step w;");
        abouts(due, most, 10, 8, 1023, 255);
    }

    private static void abouts(Due due, TokenSums x, int... want) {
        for (int what = 0; what < want.length; what++) {
            due.is("about(" + what + ")", x.about(what), want[what]);
        }
    }

    // Promise 6: "4: all TOKENS together", from none to 999 in each of ten PLACES.
    private static void allTokens(Due due) {
        TokenSums x = Due.net(places(10));
        due.is("about(4) of none", x.about(4), 0);
        for (int p = 0; p < 10; p++) {
            x.set(p, 999);
            due.is("about(4)", x.about(4), 999 * (p + 1));
        }
        x.set(9, 0);
        due.is("about(4)", x.about(4), 8991);
        TokenSums y = Due.net("place a 3;place b 5;place c 7;step s takes 2 b gives 2 c;step t takes 2 c gives 2 b;");
        due.is("about(4)", y.about(4), 15);
        y.become();
        due.is("about(4) without those that are gone", y.about(4), 12);
    }

    // Promise 6: "5: ACTS that can be undone".
    private static void actsThatCanBeUndone(Due due) {
        TokenSums x = line();
        due.is("about(5) at first", x.about(5), 0);
        x.fire(0);
        x.set(0, 50);
        x.run(1, 1);
        x.become();
        due.is("about(5)", x.about(5), 4);
        for (int left = 3; left >= 0; left--) {
            x.undo();
            due.is("about(5) behind undo()", x.about(5), left);
        }
        x.undo();
        due.is("about(5) behind one more", x.about(5), 0);
    }

    // Promise 6: "6: bytes on the TAPE".
    private static void bytesOnTape(Due due) {
        TokenSums x = line();
        due.is("about(6)", x.about(6), 0);
        for (int i = 1; i <= 46; i++) {
            x.feed(0, 0, 0, 0, 0);
            due.is("about(6)", x.about(6), Math.min(900, 20 * i));
        }
        x.end(1);
        due.is("about(6)", x.about(6), 1);
        x.end(0);
        due.is("about(6)", x.about(6), 0);
    }

    // Promise 6: "7: RANK"; Terms: "RANK: of CHANGES (a row for each PLACE) as fractions".
    private static void ranks(Due due) {
        for (int n = 0; n <= 8; n++) {
            StringBuilder own = new StringBuilder(places(10));
            StringBuilder one = new StringBuilder(places(1));
            for (int s = 0; s < n; s++) {
                own.append("step ").append((char) ('p' + s)).append(" takes ").append((char) ('c' + s)).append(';');
                one.append("step ").append((char) ('p' + s)).append(" takes 2 a;");
            }
            due.is("rank of " + n + " steps, a place each", Due.net(own.toString()).about(7), n);
            due.is("rank of " + n + " steps with one place", Due.net(one.toString()).about(7), Math.min(n, 1));
        }
        due.is("without places", Due.net("step s;step t;").about(7), 0);
        due.is("without changes", Due.net("place a;step s takes 3 a gives 3 a;").about(7), 0);
        due.is("parts of each other", Due.net("place a;place b;step s takes 2 a takes 3 b;step t gives 2 a gives 3 b;").about(7), 1);
        due.is("near to each other", Due.net("place a;place b;step s takes 2 a takes 3 b;step t gives 3 a gives 3 b;").about(7), 2);
        // The third row is the sum of the others.
        due.is("dependent", Due.net("place a;place b;place c;step s gives a gives c;step t gives b gives c;step u gives a gives 2 b gives 3 c;").about(7), 2);
        due.is("behind become()", lineLeft().about(7), 2);
    }

    // Promise 7: "Integer.MIN_VALUE if there is none such, or for another what."
    private static void arcsOfNone(Due due) {
        due.is("arc(2, 2, 0)", line().arc(2, 2, 0), 1);
        due.nothing("arc(3, 0, 0)", NetEdgesTest::line, t -> t.arc(3, 0, 0), NO_ARC);
        due.nothing("arc(0, 3, 0)", NetEdgesTest::line, t -> t.arc(0, 3, 0), NO_ARC);
        due.nothing("arc(8, 0, 0)", NetEdgesTest::line, t -> t.arc(8, 0, 0), NO_ARC);
        due.nothing("arc(0, 10, 0)", NetEdgesTest::line, t -> t.arc(0, 10, 0), NO_ARC);
        due.nothing("arc(0, 0, 3)", NetEdgesTest::line, t -> t.arc(0, 0, 3), NO_ARC);
        for (int n : FAR) {
            due.nothing("arc(" + n + ", 0, 0)", NetEdgesTest::line, t -> t.arc(n, 0, 0), NO_ARC);
            due.nothing("arc(0, " + n + ", 0)", NetEdgesTest::line, t -> t.arc(0, n, 0), NO_ARC);
            due.nothing("arc(0, 0, " + n + ")", NetEdgesTest::line, t -> t.arc(0, 0, n), NO_ARC);
        }
        for (int what = 0; what < 3; what++) {
            due.is("arc of a step that is gone", lineLeft().arc(0, 1, what), NO_ARC);
            due.is("arc of a place that is gone", lineLeft().arc(1, 0, what), NO_ARC);
        }
    }

    // Terms: "CHANGE of a STEP in a PLACE: what it gives less what it takes", -3 to 3.
    private static void changes(Due due) {
        for (int takes = 0; takes <= 3; takes++) {
            for (int gives = 0; gives <= 3; gives++) {
                String arcs = (takes > 0 ? " takes " + takes + " a" : "") + (gives > 0 ? " gives " + gives + " a" : "");
                TokenSums x = Due.net("place a;step s" + arcs + ";");
                due.is("takes", x.arc(0, 0, 0), takes);
                due.is("gives", x.arc(0, 0, 1), gives);
                due.is("change", x.arc(0, 0, 2), gives - takes);
            }
        }
    }

    // Promise 8: "NONE if there is none such"; Terms: "The MARKING: TOKENS of PLACES (0 .. 999)".
    private static void tokensOfNone(Due due) {
        due.is("tokens(2)", line().tokens(2), 2);
        due.nothing("tokens(3)", NetEdgesTest::line, t -> t.tokens(3));
        due.nothing("tokens(10)", NetEdgesTest::line, t -> t.tokens(10));
        for (int n : FAR) {
            due.nothing("tokens(" + n + ")", NetEdgesTest::line, t -> t.tokens(n));
        }
        due.nothing("tokens of a place that is gone", NetEdgesTest::lineLeft, t -> t.tokens(0));
        TokenSums x = Due.net(places(10));
        x.set(9, 999);
        due.is("tokens(9)", x.tokens(9), 999);
        due.is("tokens(10)", x.tokens(10), NONE);
    }

    private static void kind(Due due, int what, String text, int want) {
        due.is("kind(" + what + ") of " + text, Due.net(text).kind(what), want);
    }

    // Promise 9: "what 0: whether each STEP takes 1 TOKEN from one PLACE and gives 1 to one".
    private static void stepMovesOne(Due due) {
        String ab = "place a;place b;step x takes a gives b;";
        kind(due, 0, ab, 1);
        kind(due, 0, ab + "step s takes a gives a;", 1);
        kind(due, 0, ab + "step s takes 2 a gives b;", 0);
        kind(due, 0, ab + "step s takes a gives 2 b;", 0);
        kind(due, 0, ab + "step s takes a takes b gives b;", 0);
        kind(due, 0, ab + "step s takes a gives b gives a;", 0);
        kind(due, 0, ab + "step s takes a;", 0);
        kind(due, 0, ab + "step s gives a;", 0);
        kind(due, 0, ab + "step s;", 0);
        kind(due, 0, "place a;place b;", 1);
        kind(due, 0, "", 1);
        kind(due, 0, "step s;", 0);
        // The last of eight steps counts as well.
        String seven = "place a;step p takes a gives a;step q takes a gives a;step r takes a gives a;"
                + "step s takes a gives a;step t takes a gives a;step u takes a gives a;step v takes a gives a;";
        kind(due, 0, seven + "step w takes a gives a;", 1);
        kind(due, 0, seven + "step w takes a gives 2 a;", 0);
        // With ten places, too.
        String ten = "place b;place c;place d;place e;place f;place g;place h;place i;place j;";
        kind(due, 0, seven + ten + "step w takes j gives j;", 1);
        kind(due, 0, seven + ten + "step w takes j gives j gives i;", 0);
    }

    // Promise 9: "1: each PLACE has one STEP that gives it 1 and one that takes 1 from it (at least one
    // each, just one each)".
    private static void placeHasOneEach(Due due) {
        kind(due, 1, "place a;step s takes a gives a;", 1);
        kind(due, 1, "place a;step s takes a;step t gives a;", 1);
        kind(due, 1, "place a;step s takes a;", 0);
        kind(due, 1, "place a;step s gives a;", 0);
        kind(due, 1, "place a;", 0);
        kind(due, 1, "place a;step s takes a gives a;step t takes a;", 0);
        kind(due, 1, "place a;step s takes a gives a;step t gives a;", 0);
        kind(due, 1, "place a;step s takes 2 a gives a;", 0);
        kind(due, 1, "place a;step s takes a gives 2 a;", 0);
        kind(due, 1, "place a;place b;step s takes a gives a;", 0);
        kind(due, 1, "place a;place b;step s takes a gives a takes b gives b;", 1);
        kind(due, 1, "place a;step s takes a gives a;step t;", 1);
        kind(due, 1, "step s;", 1);
        kind(due, 1, "", 1);
        StringBuilder ten = new StringBuilder(places(10) + "step s");
        for (int p = 0; p < 9; p++) {
            ten.append(" takes ").append((char) ('a' + p)).append(" gives ").append((char) ('a' + p));
        }
        kind(due, 1, ten + " takes j gives j;", 1);
        kind(due, 1, ten + " takes j;", 0);
        // The last of eight steps counts as well.
        String seven = "place a;step p takes a;step q;step r;step s;step t;step u;step v;";
        kind(due, 1, seven + "step w gives a;", 1);
        kind(due, 1, seven + "step w gives a takes a;", 0);
        kind(due, 1, seven + "step w;", 0);
    }

    // Promise 9: "2: each two STEPS that take from some PLACE both take just alike".
    private static void takeJustAlike(Due due) {
        String ab = "place a;place b;place c;";
        kind(due, 2, ab + "step s takes a;step t takes a;", 1);
        kind(due, 2, ab + "step s takes a;step t takes b;", 1);
        kind(due, 2, ab + "step s takes a takes b;step t takes b takes a gives c;", 1);
        kind(due, 2, ab + "step s takes a takes b;step t takes a;", 0);
        kind(due, 2, ab + "step s takes a;step t takes a takes b;", 0);
        kind(due, 2, ab + "step s takes a takes b;step t takes b takes c;", 0);
        kind(due, 2, ab + "step s takes a takes b;step t takes c;", 1);
        kind(due, 2, ab + "step s takes 2 a;step t takes 2 a;", 1);
        kind(due, 2, ab + "step s takes 2 a;step t takes a;", 0);
        kind(due, 2, ab + "step s takes a takes 2 b;step t takes a takes b;", 0);
        kind(due, 2, ab + "step s takes a;step t gives a takes b;step u;", 1);
        kind(due, 2, ab + "step s takes a;", 1);
        kind(due, 2, ab, 1);
        kind(due, 2, "", 1);
        kind(due, 2, ab + "step p;step q;step r;step s;step t;step u;step v takes c takes a;step w takes c;", 0);
    }

    /** Gone PLACES and STEPS are none: they spoil no kind. */
    private static void kindsBehindBecome(Due due) {
        TokenSums x = Due.net("place x 1;place y;place z 9;step s takes x gives y;step t takes y gives x;step u;step v takes x gives y;");
        due.is("kind(0) ahead", x.kind(0), 0);
        due.is("kind(1) ahead", x.kind(1), 0);
        TokenSums y = Due.net("place x 2;place y;place z 3;step v takes 2 x takes z gives 3 y gives z;step w takes 3 y gives 2 x;step t takes 2 x gives 2 x;");
        due.is("kind(2) ahead", y.kind(2), 0);
        due.is("become()", y.become(), 2);
        due.is("about(2)", y.about(2), 3);
        due.is("kind(2) behind become()", y.kind(2), 1);
        y.undo();
        due.is("kind(2) undone", y.kind(2), 0);
        x.become();
        due.is("about(2) of what went whole", x.about(2), 0);
        due.is("kind(1) without places", x.kind(1), 1);
    }

    // Promise 9: "NONE for another what."
    private static void anotherKind(Due due) {
        due.nothing("kind(3)", NetEdgesTest::line, t -> t.kind(3));
        due.nothing("kind(4)", NetEdgesTest::line, t -> t.kind(4));
        for (int n : FAR) {
            due.nothing("kind(" + n + ")", NetEdgesTest::line, t -> t.kind(n));
        }
    }
}
