/** The edges of promises 27 to 30 and of AIM, COUNTS and ORDER, a sentence each. */
public final class AimEdgesTest {
    private static final int NONE = TokenSums.NONE;
    private static final int[] FAR = {-2, -3, 32, 64, Integer.MAX_VALUE, Integer.MIN_VALUE};

    public static void main(String[] args) {
        Due due = new Due("AimEdgesTest");
        allZeroAtFirst(due);
        aimFrom0To999(due);
        aimRefused(due);
        twelveInAll(due);
        fewestInAll(due);
        firstByNumbers(due);
        eachPlaceIsAimedAt(due);
        countsOfNone(due);
        orderIsTheFirst(due);
        orderOfNone(due);
        noOrder(due);
        orderCanBeDone(due);
        reachesFewest(due);
        reachesNot(due);
        reachesFull(due);
        goneOnes(due);
        due.close();
    }

    private static TokenSums ring() {
        TokenSums x = Due.net("place a 3;place b;step s takes a gives b;step t takes b gives a;");
        x.aim(0, 1);
        x.aim(1, 2);
        x.set(0, 3 + 1);
        x.undo();
        return x;
    }

    /** There are COUNTS (s once), but no ORDER: s lacks the key. */
    private static TokenSums locked() {
        TokenSums x = Due.net("place key;place n;step s takes key gives key gives n;");
        x.aim(1, 1);
        return x;
    }

    private static void counts(Due due, TokenSums x, int... want) {
        int all = 0;
        for (int s = 0; s < want.length; s++) {
            all += want[s];
            due.is("counts(" + s + ")", x.counts(s), want[s]);
        }
        due.is("counts(-1)", x.counts(NONE), all);
    }

    private static void noCounts(Due due, TokenSums x) {
        due.is("counts(-1) of none", x.counts(NONE), NONE);
        due.is("counts(0) of none", x.counts(0), NONE);
        int[] any = {0, 1, 12, -1, -2, Integer.MAX_VALUE, Integer.MIN_VALUE};
        for (int i : any) {
            due.is("order(" + i + ") without counts", x.order(i), NONE);
        }
    }

    private static void order(Due due, TokenSums x, int... want) {
        for (int i = 0; i < want.length; i++) {
            due.is("order(" + i + ")", x.order(i), want[i]);
        }
        due.is("order behind the last", x.order(want.length), NONE);
        due.is("order(-1)", x.order(-1), NONE);
    }

    // "AIM: a MARKING that is asked for (all 0 at first)."
    private static void allZeroAtFirst(Due due) {
        TokenSums x = Due.net("place a 5;place b 9;");
        due.is("aim(0, 1)", x.aim(0, 1), 0);
        due.is("aim(1, 2)", x.aim(1, 2), 0);
        TokenSums y = Due.net("place a 2;step s takes a;");
        counts(due, y, 2);
        due.is("reaches()", y.reaches(), 2);
    }

    // Promise 27: "AIM of a PLACE is n (0 .. 999): what it was".
    private static void aimFrom0To999(Due due) {
        TokenSums x = ring();
        int[] row = {0, 1, 998, 999, 999, 0, 0, 7};
        int was = 1;
        for (int n : row) {
            due.is("aim(0, " + n + ")", x.aim(0, n), was);
            was = n;
        }
        due.is("aim of the other stays", x.aim(1, 2), 2);
        due.is("it is no act", x.about(5), 0);
        TokenSums y = Due.net("place a;place b;place c;place d;place e;place f;place g;place h;place i;place j;step s gives j;");
        y.aim(9, 3);
        counts(due, y, 3);
    }

    // Promise 27: "NONE, doing nothing, if one can't be."
    private static void aimRefused(Due due) {
        int[] wrong = {-1, -2, 1000, 1001, Integer.MAX_VALUE, Integer.MIN_VALUE};
        for (int n : wrong) {
            due.nothing("aim(0, " + n + ")", AimEdgesTest::ring, t -> t.aim(0, n));
        }
        int[] none = {-1, -2, 2, 3, 10, 32, Integer.MAX_VALUE, Integer.MIN_VALUE};
        for (int p : none) {
            due.nothing("aim(" + p + ", 1)", AimEdgesTest::ring, t -> t.aim(p, 1));
        }
        due.nothing("aim(2, 1000)", AimEdgesTest::ring, t -> t.aim(2, 1000));
    }

    // "COUNTS: how often each STEP has to be done, 12 times in all at most".
    private static void twelveInAll(Due due) {
        TokenSums one = Due.net("place a;step s gives a;");
        for (int n = 0; n <= 12; n++) {
            one.aim(0, n);
            counts(due, one, n);
        }
        for (int n = 13; n <= 15; n++) {
            one.aim(0, n);
            noCounts(due, one);
        }
        one.aim(0, 999);
        noCounts(due, one);
        TokenSums two = Due.net("place a;place b;step s gives a;step t gives b;");
        two.aim(0, 6);
        two.aim(1, 5);
        counts(due, two, 6, 5);
        two.aim(1, 6);
        counts(due, two, 6, 6);
        two.aim(1, 7);
        noCounts(due, two);
        two.aim(0, 5);
        counts(due, two, 5, 7);
        TokenSums three = Due.net("place a;step s gives 3 a;step t gives 2 a;");
        three.aim(0, 36);
        counts(due, three, 12, 0);
        three.aim(0, 35);
        counts(due, three, 11, 1);
        three.aim(0, 37);
        noCounts(due, three);
        TokenSums down = Due.net("place a 99;step s takes 3 a;");
        down.aim(0, 63);
        counts(due, down, 12);
        down.aim(0, 60);
        noCounts(due, down);
        TokenSums eight = Due.net("place a;place b;place c;place d;place e;place f;place g;place h;step p gives a;step q gives b;step r gives c;"
                + "step s gives d;step t gives e;step u gives f;step v gives g;step w gives h;");
        int[] want = {2, 2, 2, 2, 1, 1, 1, 1};
        for (int p = 0; p < 8; p++) {
            eight.aim(p, want[p]);
        }
        counts(due, eight, want);
        order(due, eight, 0, 0, 1, 1, 2, 2, 3, 3, 4, 5, 6, 7);
        eight.aim(7, 2);
        noCounts(due, eight);
    }

    // "those with the fewest in all".
    private static void fewestInAll(Due due) {
        TokenSums x = Due.net("place a;step s gives a;step t gives 2 a;step u gives 3 a;step v takes a;");
        int[][] want = {{0, 0, 0, 0}, {1, 0, 0, 0}, {0, 1, 0, 0}, {0, 0, 1, 0}, {0, 2, 0, 0}, {0, 1, 1, 0}, {0, 0, 2, 0}, {0, 2, 1, 0}};
        for (int n = 0; n < want.length; n++) {
            x.aim(0, n);
            counts(due, x, want[n]);
        }
        // Eleven threes and a two are twelve; thirty-seven would be thirteen.
        x.aim(0, 35);
        counts(due, x, 0, 1, 11, 0);
    }

    // "of like ones the first by numbers (STEP 0 the least, then STEP 1, ..)".
    private static void firstByNumbers(Due due) {
        TokenSums x = Due.net("place a;step s gives a;step t gives a;step u gives a;");
        x.aim(0, 5);
        counts(due, x, 0, 0, 5);
        // 4 by two: 1 + 3 or 2 + 2 or 3 + 1: the least of step 0 first, then of step 1.
        TokenSums y = Due.net("place a;step s gives 2 a;step t gives a;step u gives 3 a;");
        y.aim(0, 4);
        counts(due, y, 0, 1, 1);
        TokenSums z = Due.net("place a;step s gives a;step t gives 2 a;step u gives 3 a;");
        z.aim(0, 4);
        counts(due, z, 0, 2, 0);
        TokenSums w = Due.net("place a;step s gives a;step t gives 3 a;step u gives 2 a;");
        w.aim(0, 4);
        counts(due, w, 0, 0, 2);
    }

    // "so that the MARKING and all CHANGES so often are AIM": in each PLACE.
    private static void eachPlaceIsAimedAt(Due due) {
        TokenSums x = Due.net("place a 3;place b 1;step s takes a;");
        noCounts(due, x);
        x.aim(1, 1);
        counts(due, x, 3);
        x.aim(1, 2);
        noCounts(due, x);
        TokenSums y = Due.net("place a;place b;place c;place d;place e;place f;place g;place h;place i;place j 1;step s takes a;");
        noCounts(due, y);
        y.aim(9, 1);
        counts(due, y, 0);
        // Not by halves, nor by taking back.
        TokenSums z = Due.net("place a;step s gives 2 a;");
        z.aim(0, 1);
        noCounts(due, z);
        z.aim(0, 2);
        counts(due, z, 1);
        z.set(0, 4);
        noCounts(due, z);
    }

    // Promise 28: "How many STEPS COUNTS have in all (step NONE), of a STEP; NONE if there are no
    // COUNTS, or there is none such."
    private static void countsOfNone(Due due) {
        TokenSums x = ring();
        counts(due, x, 2, 0);
        due.nothing("counts(-1)", AimEdgesTest::ring, t -> t.counts(NONE), 2);
        due.nothing("counts(2)", AimEdgesTest::ring, t -> t.counts(2));
        due.nothing("counts(8)", AimEdgesTest::ring, t -> t.counts(8));
        for (int n : FAR) {
            due.nothing("counts(" + n + ")", AimEdgesTest::ring, t -> t.counts(n));
        }
        due.is("counts(-1) without steps", Due.net("place a;").counts(NONE), 0);
        due.is("counts(0) without steps", Due.net("place a;").counts(0), NONE);
        due.is("counts(-1) without steps, elsewhere", Due.net("place a 1;").counts(NONE), NONE);
    }

    // "ORDER: a row of STEPS, so many of each as COUNTS tell, that CAN be done one behind the other: of
    // these the first (STEP by STEP the least)."
    private static void orderIsTheFirst(Due due) {
        TokenSums x = Due.net("place a;place b;step s takes a gives b;step t gives a;");
        x.aim(1, 6);
        counts(due, x, 6, 6);
        order(due, x, 1, 0, 1, 0, 1, 0, 1, 0, 1, 0, 1, 0);
        TokenSums y = Due.net("place a;place b;step s gives a;step t gives b;");
        y.aim(0, 2);
        y.aim(1, 2);
        order(due, y, 0, 0, 1, 1);
        // The least first may lead to an end: s would take the key that t needs.
        TokenSums z = Due.net("place key 1;place m;place n;step s takes key gives m;step t takes key gives key gives n;");
        z.aim(1, 1);
        z.aim(2, 2);
        order(due, z, 1, 1, 0);
        // t needs u ahead of it, and the key that s takes: u, t, s, though s, u and u, s lead to an end.
        TokenSums w = Due.net("place key 1;place m;place n;place q;step s takes key gives q;step t takes key takes m gives key gives n;step u gives m;");
        w.aim(2, 1);
        w.aim(3, 1);
        counts(due, w, 1, 1, 1);
        order(due, w, 2, 1, 0);
    }

    // Promise 29: "The i-th STEP (0 ..) of ORDER; .. NONE if there is none such."
    private static void orderOfNone(Due due) {
        due.nothing("order(0)", AimEdgesTest::ring, t -> t.order(0), 0);
        due.nothing("order(1)", AimEdgesTest::ring, t -> t.order(1), 0);
        due.nothing("order(2)", AimEdgesTest::ring, t -> t.order(2));
        due.nothing("order(-1)", AimEdgesTest::ring, t -> t.order(-1));
        for (int n : FAR) {
            due.nothing("order(" + n + ")", AimEdgesTest::ring, t -> t.order(n));
        }
        // No steps are needed: an empty row.
        TokenSums x = Due.net("place a;step s gives a;");
        counts(due, x, 0);
        order(due, x);
        order(due, new TokenSums());
    }

    // Promise 29: "NONE without COUNTS; -2, for any i, if there are COUNTS, but no ORDER".
    private static void noOrder(Due due) {
        counts(due, locked(), 1);
        int[] any = {0, 1, 2, 11, 12, 13, -1, -2, Integer.MAX_VALUE, Integer.MIN_VALUE};
        for (int i : any) {
            due.nothing("order(" + i + ")", AimEdgesTest::locked, t -> t.order(i), -2);
        }
        TokenSums x = locked();
        due.is("order(0) without the key", x.order(0), -2);
        x.aim(0, 1);
        noCounts(due, x);
        x.set(0, 1);
        order(due, x, 0);
        // Twelve steps, of which the last can never be done.
        TokenSums y = Due.net("place key;place a;place b;place n;step s gives a;step t gives b;step u takes key gives key gives n;");
        y.aim(1, 6);
        y.aim(2, 5);
        y.aim(3, 1);
        counts(due, y, 6, 5, 1);
        due.is("order(0)", y.order(0), -2);
    }

    /** ORDER keeps to CAN: what each takes must be there, and none may have more than 999. */
    private static void orderCanBeDone(Due due) {
        TokenSums x = Due.net("place a;place b;step s gives a gives b;step t takes 2 a;");
        x.set(0, 998);
        x.aim(0, 997);
        x.aim(1, 1);
        counts(due, x, 1, 1);
        order(due, x, 0, 1);
        x.set(0, 999);
        x.aim(0, 998);
        order(due, x, 1, 0);
        // 999 and one more: it could be counted, but not done.
        TokenSums y = Due.net("place a;place b;step s takes 2 a gives 3 a gives b;step t takes a gives b;");
        y.set(0, 999);
        y.aim(0, 999);
        y.aim(1, 2);
        counts(due, y, 1, 1);
        order(due, y, 1, 0);
        TokenSums z = Due.net("place a;place b;step s gives 2 a gives b takes a;step t takes b takes a;");
        z.set(0, 999);
        z.aim(0, 999);
        counts(due, z, 0, 0);
        z.aim(1, 1);
        noCounts(due, z);
    }

    // Promise 30: "The fewest STEPS by which AIM comes in the GRAPH".
    private static void reachesFewest(Due due) {
        TokenSums x = Due.net("place a 1;place b;place c;place d;step s takes a gives b;step t takes b gives c;step u takes c gives d;step v takes b gives d;");
        int[] want = {0, 1, 2, 2};
        x.aim(0, 1);
        due.is("reaches() the present one", x.reaches(), 0);
        for (int p = 1; p < 4; p++) {
            x.aim(p - 1, 0);
            x.aim(p, 1);
            due.is("reaches() " + p, x.reaches(), want[p]);
        }
        // More than COUNTS can have.
        TokenSums y = Due.net("place a;step s gives a;");
        y.aim(0, 13);
        due.is("reaches() 13", y.reaches(), 13);
        due.is("counts(-1)", y.counts(NONE), NONE);
        due.is("reaches() of a new object", new TokenSums().reaches(), 0);
        // By another way than COUNTS tell.
        TokenSums z = Due.net("place key;place n;step s takes key gives key gives n;step t gives key;step u takes key;");
        z.aim(1, 1);
        counts(due, z, 1, 0, 0);
        due.is("order(0)", z.order(0), -2);
        due.is("reaches()", z.reaches(), 3);
    }

    // Promise 30: "NONE if not".
    private static void reachesNot(Due due) {
        TokenSums x = Due.net("place a 3;place b;step s takes a gives b;");
        due.is("reaches() less in all", x.reaches(), NONE);
        x.aim(1, 3);
        due.is("reaches()", x.reaches(), 3);
        x.aim(1, 4);
        due.is("reaches() one more", x.reaches(), NONE);
        TokenSums y = Due.net("place a 1;place b;step s takes a;");
        y.aim(1, 1);
        due.is("reaches() in the other place", y.reaches(), NONE);
    }

    // Promise 30: "-2: not, but it is FULL."
    private static void reachesFull(Due due) {
        TokenSums x = Due.net("place a;step s gives a;");
        int[] aims = {0, 1, 298, 299, 300, 301, 999};
        int[] full = {0, 1, 298, 299, -2, -2, -2};
        for (int i = 0; i < aims.length; i++) {
            x.aim(0, aims[i]);
            due.is("reaches() " + aims[i], x.reaches(), full[i]);
        }
        // 700 to 999: just 300 markings, not FULL. 699: FULL.
        x.set(0, 700);
        due.is("reaches() the 300th", x.reaches(), 299);
        x.aim(0, 699);
        due.is("reaches() what is behind", x.reaches(), NONE);
        x.set(0, 699);
        x.aim(0, 999);
        due.is("reaches() the 301st", x.reaches(), -2);
        x.aim(0, 998);
        due.is("reaches() the 300th", x.reaches(), 299);
        x.aim(0, 0);
        due.is("reaches() what can't come, but it is FULL", x.reaches(), -2);
    }

    /** Behind become() only PLACES that there are have to be as AIM asks; what is gone has no COUNTS. */
    private static void goneOnes(Due due) {
        TokenSums x = Due.net("place x 2;place y;place z 1;step v takes 2 x gives 3 y;step w takes 3 y gives 2 x;step t;");
        x.aim(1, 3);
        x.aim(2, 9);
        noCounts(due, x);
        due.is("reaches()", x.reaches(), NONE);
        due.is("become()", x.become(), 2);
        counts(due, x, 1, 0);
        due.is("counts of a step that is gone", x.counts(2), NONE);
        order(due, x, 0);
        due.is("reaches()", x.reaches(), 1);
        due.is("aim of a place that is gone", x.aim(2, 5), NONE);
        x.undo();
        due.is("aim of it behind undo()", x.aim(2, 1), 9);
        counts(due, x, 1, 0, 0);
    }
}
