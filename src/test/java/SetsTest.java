/** Promises 21 to 26: siphons, siphon, isSiphon, greatest, unguarded, lost. */
public final class SetsTest {
    private static final int NONE = TokenSums.NONE;

    public static void main(String[] args) {
        Due due = new Due("SetsTest");
        least(due);
        whole(due);
        wrong(due);
        guarded(due);
        lost(due);
        many(due);
        due.close();
    }

    /** s: a to b; t: b to c and d; u: takes c alone; d is a sink. */
    private static TokenSums line() {
        return Due.net("place a 1; place b; place c; place d; step s takes a gives b; step t takes b gives c gives d; step u takes c;");
    }

    private static void least(Due due) {
        TokenSums x = line();
        // Nobody gives to a: it is a siphon alone; nobody takes from d: it is a trap alone.
        due.is("siphons(0)", x.siphons(0), 1);
        due.is("siphon(0,0)", x.siphon(0, 0), 1);
        due.is("siphons(1)", x.siphons(1), 1);
        due.is("siphon(1,0)", x.siphon(1, 0), 8);
        due.is("isSiphon(0,1)", x.isSiphon(0, 1), 1);
        due.is("isSiphon(0,2)", x.isSiphon(0, 2), 0);
        due.is("isSiphon(0,3), not least", x.isSiphon(0, 3), 1);
        due.is("isSiphon(0,7)", x.isSiphon(0, 7), 1);
        due.is("isSiphon(0,5)", x.isSiphon(0, 5), 0);
        due.is("isSiphon(1,8)", x.isSiphon(1, 8), 1);
        due.is("isSiphon(1,10)", x.isSiphon(1, 10), 1);
        due.is("isSiphon(1,11)", x.isSiphon(1, 11), 1);
        due.is("isSiphon(1,12): u takes c and gives nothing", x.isSiphon(1, 12), 0);
        due.is("isSiphon(1,1)", x.isSiphon(1, 1), 0);
    }

    private static void whole(Due due) {
        TokenSums x = line();
        due.is("greatest(0,15)", x.greatest(0, 15), 15);
        due.is("greatest(0,14)", x.greatest(0, 14), 0);
        due.is("greatest(0,13)", x.greatest(0, 13), 1);
        due.is("greatest(0,-1)", x.greatest(0, -1), 15);
        due.is("greatest(1,-1): c goes, as u takes from it", x.greatest(1, -1), 11);
        due.is("greatest(1,7)", x.greatest(1, 7), 0);
        due.is("greatest(1,9)", x.greatest(1, 9), 8);
        due.is("greatest(1,0)", x.greatest(1, 0), 0);
        due.is("greatest of what there is not", x.greatest(0, 1 << 9 | 1 << 31), 0);
        due.is("greatest(2,1)", x.greatest(2, 1), NONE);
        due.is("greatest(-1,1)", x.greatest(-1, 1), NONE);
    }

    private static void wrong(Due due) {
        TokenSums x = line();
        due.is("siphons(2)", x.siphons(2), NONE);
        due.is("siphons(-1)", x.siphons(-1), NONE);
        due.noSiphon(x, 0, 1);
        due.noSiphon(x, 0, -1);
        due.noSiphon(x, 1, 1);
        due.noSiphon(x, 2, 0);
        due.noSiphon(x, -1, 0);
        due.noSiphon(new TokenSums(), 1, 0);
        due.is("isSiphon(0,0)", x.isSiphon(0, 0), 0);
        due.is("isSiphon(1,0)", x.isSiphon(1, 0), 0);
        due.is("isSiphon(0,17)", x.isSiphon(0, 17), 0);
        due.is("isSiphon(0,-1)", x.isSiphon(0, -1), 0);
        due.is("isSiphon(0,MIN|1)", x.isSiphon(0, Integer.MIN_VALUE | 1), 0);
        due.is("isSiphon(2,1)", x.isSiphon(2, 1), NONE);
        due.is("isSiphon(-1,0)", x.isSiphon(-1, 0), NONE);
        TokenSums y = Due.net("place a; place b;");
        due.is("siphons(0) without steps", y.siphons(0), 2);
        due.is("siphons(1) without steps", y.siphons(1), 2);
        due.is("isSiphon(1,3)", y.isSiphon(1, 3), 1);
    }

    private static void guarded(Due due) {
        TokenSums x = Due.net("place a 1; place b; place c 2; place d; step s takes a gives b; step t takes b gives a;"
                + "step u takes c; step v takes d gives d;");
        // Least siphons: c, d, a + b; traps: d, a + b.
        due.is("siphons(0)", x.siphons(0), 3);
        due.is("siphon(0,0)", x.siphon(0, 0), 3);
        due.is("siphon(0,1)", x.siphon(0, 1), 4);
        due.is("siphon(0,2)", x.siphon(0, 2), 8);
        due.is("unguarded(-1)", x.unguarded(-1), 2);
        due.is("unguarded(0): a siphon with tokens, but no trap", x.unguarded(0), 4);
        due.is("unguarded(1): a trap without tokens", x.unguarded(1), 8);
        due.is("unguarded(2)", x.unguarded(2), NONE);
        due.is("unguarded(-2)", x.unguarded(-2), NONE);
        due.is("unguarded(MIN)", x.unguarded(Integer.MIN_VALUE), NONE);
        x.set(3, 1);
        due.is("unguarded(-1)", x.unguarded(-1), 1);
        x.set(0, 0);
        due.is("unguarded(-1)", x.unguarded(-1), 2);
        due.is("unguarded(0)", x.unguarded(0), 3);
        due.is("unguarded(1)", x.unguarded(1), 4);
        x.undo();
        due.is("unguarded(0)", x.unguarded(0), 4);
    }

    private static void lost(Due due) {
        TokenSums x = line();
        due.is("lost()", x.lost(), 0);
        x.fire(0);
        due.is("lost() behind s", x.lost(), 1);
        x.fire(1);
        due.is("lost() behind t", x.lost(), 3);
        x.fire(2);
        due.is("lost() behind u", x.lost(), 7);
        x.undo();
        due.is("lost() undone", x.lost(), 3);
        TokenSums y = Due.net("place a; place b; step s gives a; step t takes b takes a gives b; step u takes a;");
        due.is("lost(): b never comes", y.lost(), 2);
        due.is("lost() without steps", Due.net("place a;").lost(), 0);
    }

    /** Ten places in five pairs of like ones, of which each step touches one pair and the next. */
    private static void many(Due due) {
        StringBuilder text = new StringBuilder();
        for (int i = 0; i < 10; i++) {
            text.append("place ").append((char) ('a' + i)).append(';');
        }
        for (int i = 0; i < 5; i++) {
            int j = (i + 1) % 5;
            text.append("step ").append((char) ('p' + i));
            text.append(" takes ").append((char) ('a' + 2 * i)).append(" takes ").append((char) ('b' + 2 * i));
            text.append(" gives ").append((char) ('a' + 2 * j)).append(" gives ").append((char) ('b' + 2 * j)).append(';');
        }
        TokenSums x = Due.net(text.toString());
        due.is("siphons(0), one of each pair", x.siphons(0), 32);
        due.is("siphons(1)", x.siphons(1), 32);
        due.is("siphon(0,0)", x.siphon(0, 0), 0b0101010101);
        due.is("siphon(0,1)", x.siphon(0, 1), 0b0101010110);
        due.is("siphon(0,31)", x.siphon(0, 31), 0b1010101010);
        due.is("sums(0)", x.sums(0), 32);
        due.is("unguarded(-1)", x.unguarded(-1), 32);
        due.is("lost()", x.lost(), 31);
        x.set(0, 1);
        due.is("unguarded(-1)", x.unguarded(-1), 16);
        due.is("unguarded(0)", x.unguarded(0), 0b0101010110);
        due.is("lost()", x.lost(), 31);
        x.set(1, 1);
        due.is("lost() with both", x.lost(), 0);
    }
}
