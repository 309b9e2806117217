import java.util.ArrayList;
import java.util.List;

/**
 * All that an object shows of itself, a line for each answer. It uses the object up (AIM is read by
 * setting it, ACTS by undoing them, the TAPE by reading it as a net), so it is looked at last.
 */
final class Look {
    private final TokenSums x;
    private final List<String> lines = new ArrayList<>();

    private Look(TokenSums x) {
        this.x = x;
    }

    /** With the latest fault, or without it: a refused net() changes that one thing. */
    static List<String> at(TokenSums x, boolean withFault) {
        Look look = new Look(x);
        if (withFault) {
            look.see("fault(0)", x.fault(0));
            look.see("fault(1)", x.fault(1));
        }
        look.seeAll();
        look.seeAims();
        look.seePast();
        look.seeTape();
        return look.lines;
    }

    /** Asks all that can be asked without a change. */
    static List<String> ask(TokenSums x) {
        Look look = new Look(x);
        look.seeAll();
        return look.lines;
    }

    private void seeAll() {
        seeNet();
        seeWeights();
        seeSets();
        seeAhead();
        seeGraph();
    }

    private void see(String call, long answer) {
        lines.add(call + " is " + answer);
    }

    private void seeNet() {
        for (int what = 0; what < 8; what++) {
            see("about(" + what + ")", x.about(what));
        }
        for (int what = 0; what < 3; what++) {
            see("kind(" + what + ")", x.kind(what));
        }
        see("can()", x.can());
        for (int p = 0; p < 10; p++) {
            see("tokens(" + p + ")", x.tokens(p));
        }
        int steps = x.about(3);
        int places = x.about(2);
        for (int s = 0; s < 8; s++) {
            for (int p = 0; p < 10; p++) {
                if ((steps >> s & 1) == 1 && (places >> p & 1) == 1) {
                    see("arc(" + s + ", " + p + ", 0)", x.arc(s, p, 0));
                    see("arc(" + s + ", " + p + ", 1)", x.arc(s, p, 1));
                }
            }
        }
    }

    private void seeWeights() {
        for (int what = 0; what < 2; what++) {
            see("sums(" + what + ")", x.sums(what));
            see("covered(" + what + ")", x.covered(what));
        }
        see("value(0)", x.value(0));
        for (int p = 0; p < 10; p++) {
            see("bound(" + p + ")", x.bound(p));
        }
    }

    private void seeSets() {
        for (int what = 0; what < 2; what++) {
            see("siphons(" + what + ")", x.siphons(what));
            see("siphon(" + what + ", 0)", Due.siphon(x, what, 0));
            see("greatest(" + what + ", -1)", x.greatest(what, -1));
        }
        see("unguarded(-1)", x.unguarded(-1));
        see("lost()", x.lost());
    }

    private void seeAhead() {
        see("counts(-1)", x.counts(-1));
        see("order(0)", x.order(0));
        see("reaches()", x.reaches());
        see("reduce()", x.reduce());
        for (int what = 0; what < 6; what++) {
            see("reduced(" + what + ")", x.reduced(what));
        }
    }

    private void seeGraph() {
        for (int what = 0; what < 5; what++) {
            see("graph(" + what + ")", x.graph(what));
        }
        for (int s = 0; s < 8; s++) {
            see("live(" + s + ")", x.live(s));
        }
        for (int p = 0; p < 10; p++) {
            see("most(" + p + ")", x.most(p));
        }
    }

    private void seeAims() {
        for (int p = 0; p < 10; p++) {
            see("aim(" + p + ", 0)", x.aim(p, 0));
        }
    }

    private void seePast() {
        for (int i = 1; i <= 13; i++) {
            boolean back = x.undo();
            see("undo() " + i, back ? 1 : 0);
            if (!back) {
                return;
            }
            see("about(2) behind undo() " + i, x.about(2));
            see("about(3) behind undo() " + i, x.about(3));
            for (int p = 0; p < 4; p++) {
                see("tokens(" + p + ") behind undo() " + i, x.tokens(p));
            }
        }
    }

    private void seeTape() {
        see("net()", x.net());
        see("fault(0) behind net()", x.fault(0));
        see("fault(1) behind net()", x.fault(1));
        see("about(4) behind net()", x.about(4));
        see("about(3) behind net()", x.about(3));
    }
}
