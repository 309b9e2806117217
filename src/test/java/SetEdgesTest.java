/** The edges of promises 21 to 26 and of SIPHON, TRAP, GREATEST, GUARDED and LOST, a sentence each. */
public final class SetEdgesTest {
    private static final int NONE = TokenSums.NONE;
    private static final int[] FAR = {-1, -2, 32, 64, Integer.MAX_VALUE, Integer.MIN_VALUE};
    private static final String TEN = "place a;place b;place c;place d;place e;place f;place g;place h;place i;place j;";

    public static void main(String[] args) {
        Due due = new Due("SetEdgesTest");
        oneAtLeast(due);
        givesThenTakes(due);
        takesThenGives(due);
        least(due);
        numberedByBits(due);
        anotherWhat(due);
        siphonOfNone(due);
        isSiphonOfNone(due);
        greatestWithin(due);
        thoseThatThereAreNot(due);
        guardedNow(due);
        unguardedNumbers(due);
        lostNow(due);
        goneOnes(due);
        due.close();
    }

    /** SIPHONS a + b, c; TRAPS a + b, d. */
    private static TokenSums ring() {
        TokenSums x = Due.net("place a 1;place b;place c 2;place d;step s takes a gives b;step t takes b gives a;step u takes c gives d;");
        x.fire(2);
        return x;
    }

    private static void sets(Due due, TokenSums x, int what, int... want) {
        due.is("siphons(" + what + ")", x.siphons(what), want.length);
        for (int k = 0; k < want.length; k++) {
            due.is("siphon(" + what + ", " + k + ")", Due.siphon(x, what, k), want[k]);
            due.is("isSiphon(" + what + ", " + want[k] + ")", x.isSiphon(what, want[k]), 1);
        }
        due.is("siphon behind the last", Due.siphon(x, what, want.length), Due.THROWN);
    }

    // "A SIPHON: PLACES, one at least"; promise 23: "0 (also without PLACES ..)".
    private static void oneAtLeast(Due due) {
        sets(due, new TokenSums(), 0);
        sets(due, new TokenSums(), 1);
        sets(due, Due.net("step s;"), 0);
        sets(due, Due.net("place a;"), 0, 1);
        sets(due, Due.net("place a;"), 1, 1);
        for (int what = 0; what < 2; what++) {
            int w = what;
            due.nothing("isSiphon(" + w + ", 0)", SetEdgesTest::ring, t -> t.isSiphon(w, 0), 0);
            due.is("isSiphon(" + w + ", 0) of a new object", new TokenSums().isSiphon(w, 0), 0);
        }
    }

    // "so that each STEP that gives to one of them takes from one of them."
    private static void givesThenTakes(Due due) {
        due.is("nobody gives", Due.net("place a;step s takes a;").isSiphon(0, 1), 1);
        due.is("gives, takes not", Due.net("place a;step s gives a;").isSiphon(0, 1), 0);
        due.is("gives and takes", Due.net("place a;step s takes a gives 3 a;").isSiphon(0, 1), 1);
        due.is("takes elsewhere", Due.net("place a;place b;step s takes b gives a;").isSiphon(0, 1), 0);
        due.is("takes from another of them", Due.net("place a;place b;step s takes b gives a;").isSiphon(0, 3), 1);
        due.is("one of two does not", Due.net("place a;step s takes a gives a;step t gives a;").isSiphon(0, 1), 0);
        due.is("the eighth step", Due.net("place a;step p;step q;step r;step s;step t;step u;step v;step w gives a;").isSiphon(0, 1), 0);
        due.is("the tenth place", Due.net(TEN + "step s takes j gives a;").isSiphon(0, 513), 1);
    }

    // "A TRAP: each STEP that takes from one of them gives to one of them."
    private static void takesThenGives(Due due) {
        due.is("nobody takes", Due.net("place a;step s gives a;").isSiphon(1, 1), 1);
        due.is("takes, gives not", Due.net("place a;step s takes a;").isSiphon(1, 1), 0);
        due.is("takes and gives", Due.net("place a;step s takes 3 a gives a;").isSiphon(1, 1), 1);
        due.is("gives elsewhere", Due.net("place a;place b;step s takes a gives b;").isSiphon(1, 1), 0);
        due.is("gives to another of them", Due.net("place a;place b;step s takes a gives b;").isSiphon(1, 3), 1);
        due.is("one of two does not", Due.net("place a;step s takes a gives a;step t takes a;").isSiphon(1, 1), 0);
        due.is("the eighth step", Due.net("place a;step p;step q;step r;step s;step t;step u;step v;step w takes a;").isSiphon(1, 1), 0);
        due.is("the tenth place", Due.net(TEN + "step s takes a gives j;").isSiphon(1, 513), 1);
    }

    // "LEAST: without another such within."
    private static void least(Due due) {
        TokenSums x = ring();
        sets(due, x, 0, 3, 4);
        sets(due, x, 1, 3, 8);
        due.is("not least, but a siphon", x.isSiphon(0, 7), 1);
        due.is("not least, but a trap", x.isSiphon(1, 11), 1);
        due.is("a siphon with d: u takes from c", x.isSiphon(0, 12), 1);
        due.is("d alone is none", x.isSiphon(0, 8), 0);
        sets(due, Due.net("place a;place b;place c;step s takes a gives b;step t takes b gives c;step u takes c gives a;"), 0, 7);
        sets(due, Due.net("place a;place b;place c;step s takes a gives b;step t takes b gives a gives c;"), 0, 3);
        // b is one; a + b is one, too, but not least, though a alone is none.
        sets(due, Due.net("place a;place b;step s takes b gives a;"), 0, 2);
        sets(due, Due.net("place a;place b;step s takes a gives b;"), 1, 2);
    }

    // "They are numbered by bits likewise."
    private static void numberedByBits(Due due) {
        sets(due, Due.net("place a;place b;place c;"), 0, 1, 2, 4);
        sets(due, Due.net("place a;place b;place c;step s takes c gives b;step t takes b gives c;"), 0, 1, 6);
        // a + j comes behind b + i.
        sets(due, Due.net(TEN + "step s takes a gives j;step t takes j gives a;step u takes b gives i;step v takes i gives b;"
                + "step w gives c gives d gives e gives f gives g gives h;"), 0, 258, 513);
        int[] each = {1, 2, 4, 8, 16, 32, 64, 128, 256, 512};
        sets(due, Due.net(TEN), 0, each);
        sets(due, Due.net(TEN), 1, each);
    }

    // Promises 21, 23, 24: "NONE for another what."
    private static void anotherWhat(Due due) {
        due.nothing("siphons(2)", SetEdgesTest::ring, t -> t.siphons(2));
        due.nothing("isSiphon(2, 3)", SetEdgesTest::ring, t -> t.isSiphon(2, 3));
        due.nothing("isSiphon(2, 0)", SetEdgesTest::ring, t -> t.isSiphon(2, 0));
        due.nothing("isSiphon(2, 16)", SetEdgesTest::ring, t -> t.isSiphon(2, 16));
        due.nothing("greatest(2, 3)", SetEdgesTest::ring, t -> t.greatest(2, 3));
        for (int what : FAR) {
            due.nothing("siphons(" + what + ")", SetEdgesTest::ring, t -> t.siphons(what));
            due.nothing("isSiphon(" + what + ", 3)", SetEdgesTest::ring, t -> t.isSiphon(what, 3));
            due.nothing("greatest(" + what + ", 3)", SetEdgesTest::ring, t -> t.greatest(what, 3));
        }
    }

    // Promise 22: "NoSuchElementException: there is none such (or another what)."
    private static void siphonOfNone(Due due) {
        due.nothing("siphon(0, 2)", SetEdgesTest::ring, t -> Due.siphon(t, 0, 2), Due.THROWN);
        due.nothing("siphon(1, 2)", SetEdgesTest::ring, t -> Due.siphon(t, 1, 2), Due.THROWN);
        due.nothing("siphon(2, 0)", SetEdgesTest::ring, t -> Due.siphon(t, 2, 0), Due.THROWN);
        for (int n : FAR) {
            due.nothing("siphon(0, " + n + ")", SetEdgesTest::ring, t -> Due.siphon(t, 0, n), Due.THROWN);
            due.nothing("siphon(1, " + n + ")", SetEdgesTest::ring, t -> Due.siphon(t, 1, n), Due.THROWN);
            due.nothing("siphon(" + n + ", 0)", SetEdgesTest::ring, t -> Due.siphon(t, n, 0), Due.THROWN);
        }
    }

    // Promise 23: "1, else 0 (also .. with one that there is not)".
    private static void isSiphonOfNone(Due due) {
        int[] not = {16, 16 | 3, 512 | 3, 1024 | 3, 1 << 30 | 3, Integer.MIN_VALUE | 3, -1};
        for (int places : not) {
            due.nothing("isSiphon(0, " + places + ")", SetEdgesTest::ring, t -> t.isSiphon(0, places), 0);
            due.nothing("isSiphon(1, " + places + ")", SetEdgesTest::ring, t -> t.isSiphon(1, places), 0);
        }
        TokenSums all = Due.net(TEN);
        due.is("all ten", all.isSiphon(0, 1023), 1);
        due.is("an eleventh", all.isSiphon(0, 2047), 0);
        due.is("the eleventh alone", all.isSiphon(0, 1024), 0);
    }

    // "GREATEST within a set: all SIPHONS (TRAPS) within it together (0: none)."
    private static void greatestWithin(Due due) {
        TokenSums x = ring();
        int[] siphons = {0, 0, 0, 3, 4, 4, 4, 7, 0, 0, 0, 3, 12, 12, 12, 15};
        int[] traps = {0, 0, 0, 3, 0, 0, 0, 3, 8, 8, 8, 11, 12, 12, 12, 15};
        for (int set = 0; set < 16; set++) {
            due.is("greatest(0, " + set + ")", x.greatest(0, set), siphons[set]);
            due.is("greatest(1, " + set + ")", x.greatest(1, set), traps[set]);
        }
        // Place by place everything falls: each turn takes one away, from the far end.
        TokenSums y = Due.net(TEN + "step p takes j gives a;step q takes i gives j;step r takes h gives i;step s takes g gives h;"
                + "step t takes f gives g;step u takes e gives f;step v takes d gives e;step w takes c gives d;");
        due.is("greatest(0, all)", y.greatest(0, 1023), 1023);
        due.is("greatest(0, all but c)", y.greatest(0, 1023 & ~4), 2);
        due.is("greatest(0, all but b, c)", y.greatest(0, 1023 & ~6), 0);
        due.is("greatest(1, all but a)", y.greatest(1, 1022), 2);
        due.is("greatest(1, all)", y.greatest(1, 1023), 1023);
    }

    // Promise 24: "(bits; those that there are not are no matter)".
    private static void thoseThatThereAreNot(Due due) {
        due.nothing("greatest(0, -1)", SetEdgesTest::ring, t -> t.greatest(0, -1), 15);
        due.nothing("greatest(1, -1)", SetEdgesTest::ring, t -> t.greatest(1, -1), 15);
        due.nothing("greatest(0, MIN | 3)", SetEdgesTest::ring, t -> t.greatest(0, Integer.MIN_VALUE | 3), 3);
        due.nothing("greatest(0, 16)", SetEdgesTest::ring, t -> t.greatest(0, 16), 0);
        due.nothing("greatest(1, 1024 | 8)", SetEdgesTest::ring, t -> t.greatest(1, 1024 | 8), 8);
        due.is("greatest(0, -1) of a new object", new TokenSums().greatest(0, -1), 0);
    }

    // "GUARDED is a LEAST SIPHON, if the GREATEST TRAP within it has a TOKEN now."
    private static void guardedNow(Due due) {
        TokenSums x = Due.net("place a 1;place b;step s takes a gives b;step t takes b gives a;");
        due.is("a token in it", x.unguarded(-1), 0);
        x.set(0, 0);
        due.is("no token", x.unguarded(-1), 1);
        x.set(1, 1);
        due.is("a token in another of it", x.unguarded(-1), 0);
        // c is a siphon with tokens, but there is no trap within it.
        TokenSums y = Due.net("place c 9;step u takes c;");
        due.is("tokens, but no trap", y.unguarded(-1), 1);
        // The least siphon a + b holds the trap b alone (w takes from a and gives nothing).
        TokenSums v = Due.net("place a 1;place b;place c;step s takes a gives b;step t takes b takes c gives b gives c;step u takes b gives b gives a;step w takes a;");
        sets(due, v, 0, 3, 4);
        due.is("greatest trap", v.greatest(1, 3), 2);
        due.is("a token outside the trap", v.unguarded(-1), 2);
        due.is("unguarded(0)", v.unguarded(0), 3);
        v.set(1, 1);
        due.is("unguarded(0)", v.unguarded(0), 4);
        v.set(2, 1);
        due.is("unguarded(-1)", v.unguarded(-1), 0);
    }

    // Promise 25: "how many (k NONE), the k-th of these, as bits (0 ..; NONE)."
    private static void unguardedNumbers(Due due) {
        TokenSums x = Due.net("place a;place b 1;place c;place d 1;step s takes a gives a;step t takes b gives b;step u takes c gives c;step v takes d;");
        due.is("unguarded(-1)", x.unguarded(-1), 3);
        due.is("unguarded(0)", x.unguarded(0), 1);
        due.is("unguarded(1)", x.unguarded(1), 4);
        due.is("unguarded(2)", x.unguarded(2), 8);
        due.is("unguarded(3)", x.unguarded(3), NONE);
        due.nothing("unguarded(0) of none", () -> Due.net("place a 1;step s takes a gives a;"), t -> t.unguarded(0));
        due.nothing("unguarded(1)", SetEdgesTest::ring, t -> t.unguarded(1));
        due.nothing("unguarded(-1)", SetEdgesTest::ring, t -> t.unguarded(-1), 1);
        due.nothing("unguarded(0)", SetEdgesTest::ring, t -> t.unguarded(0), 4);
        int[] none = {-2, -3, 32, Integer.MAX_VALUE, Integer.MIN_VALUE};
        for (int k : none) {
            due.nothing("unguarded(" + k + ")", SetEdgesTest::ring, t -> t.unguarded(k));
        }
    }

    // "LOST: STEPS that take from the GREATEST SIPHON within those PLACES that have no TOKEN now."
    private static void lostNow(Due due) {
        TokenSums x = Due.net("place a 1;place b;step s takes a gives b;step t takes b gives a;");
        due.is("one token", x.lost(), 0);
        x.set(0, 0);
        due.is("no token", x.lost(), 3);
        x.undo();
        due.is("undone", x.lost(), 0);
        // Empty places that can be filled again lose nothing.
        TokenSums y = Due.net("place a;place b;step s gives a;step t takes a gives b;step u takes b;");
        due.is("no siphon is empty", y.lost(), 0);
        // t takes from a, too few tokens, but not from an empty siphon.
        TokenSums z = Due.net("place a 1;step t takes 2 a;");
        due.is("too few are not none", z.lost(), 0);
        z.set(0, 0);
        due.is("none", z.lost(), 1);
        due.is("without places", Due.net("step s;step t;").lost(), 0);
        due.is("the eighth step, the tenth place", Due.net(TEN + "step p;step q;step r;step s;step t;step u;step v;step w takes j;").lost(), 128);
    }

    /** Behind become() a PLACE that is gone is in no set. */
    private static void goneOnes(Due due) {
        TokenSums x = Due.net("place x 2;place y;place z 1;step v takes 2 x gives 3 y;step w takes 3 y gives 2 x;step t;");
        sets(due, x, 0, 3, 4);
        x.become();
        sets(due, x, 0, 3);
        sets(due, x, 1, 3);
        due.is("isSiphon(0, 4)", x.isSiphon(0, 4), 0);
        due.is("isSiphon(1, 7)", x.isSiphon(1, 7), 0);
        due.is("greatest(0, 7)", x.greatest(0, 7), 3);
        due.is("greatest(1, 4)", x.greatest(1, 4), 0);
        x.set(0, 0);
        due.is("lost()", x.lost(), 3);
        due.is("unguarded(0)", x.unguarded(0), 3);
        x.undo();
        x.undo();
        sets(due, x, 0, 3, 4);
    }
}
