/** Promises 1 to 5: a new object, feed, end, net, fault. */
public final class TextTest {
    private static final int NONE = TokenSums.NONE;

    public static void main(String[] args) {
        Due due = new Due("TextTest");
        newObject(due);
        tape(due);
        netStays(due);
        good(due);
        notTokens(due);
        cannotStand(due);
        names(due);
        numbers(due);
        tooMany(due);
        due.close();
    }

    private static void newObject(Due due) {
        TokenSums x = new TokenSums();
        for (int what = 0; what < 8; what++) {
            due.is("about(" + what + ") of a new object", x.about(what), 0);
        }
        due.is("fault(0)", x.fault(0), 0);
        due.is("fault(1)", x.fault(1), NONE);
        due.is("fault(-1)", x.fault(-1), NONE);
        due.is("fault(2)", x.fault(2), NONE);
        due.is("undo()", x.undo(), false);
        due.is("NONE", NONE, -1);
        // Each on an object of its own: nothing has been worked out ahead.
        due.is("sums(0)", new TokenSums().sums(0), 0);
        due.is("covered(1)", new TokenSums().covered(1), 0);
        due.is("siphons(0)", new TokenSums().siphons(0), 0);
        due.is("siphons(1)", new TokenSums().siphons(1), 0);
        due.is("graph(0)", new TokenSums().graph(0), 1);
        due.is("graph(1)", new TokenSums().graph(1), 0);
        due.is("graph(3)", new TokenSums().graph(3), 0);
        due.is("graph(4)", new TokenSums().graph(4), 1);
        due.is("reaches()", new TokenSums().reaches(), 0);
        due.is("counts(-1)", new TokenSums().counts(-1), 0);
        due.is("order(0)", new TokenSums().order(0), NONE);
        due.is("reduce()", new TokenSums().reduce(), 0);
        due.is("reduced(2)", new TokenSums().reduced(2), 1);
        due.is("become()", new TokenSums().become(), NONE);
        due.is("can()", new TokenSums().can(), 0);
        due.is("net()", new TokenSums().net(), 0);
    }

    private static void tape(Due due) {
        TokenSums x = new TokenSums();
        for (int i = 1; i <= 45; i++) {
            due.is("feed " + i, x.feed(0x20202020, 0x20202020, 0x20202020, 0x20202020, 0x20202020), 20 * i);
        }
        due.is("a 46th feed", x.feed(0, 0, 0, 0, 0), NONE);
        due.is("about(6) when full", x.about(6), 900);
        due.is("end(901)", x.end(901), NONE);
        due.is("end(-1)", x.end(-1), NONE);
        due.is("end(900)", x.end(900), 900);
        due.is("end(881)", x.end(881), 881);
        due.is("feed that would make 901", x.feed(0, 0, 0, 0, 0), NONE);
        due.is("about(6) behind it", x.about(6), 881);
        due.is("end(880)", x.end(880), 880);
        due.is("end(881) behind it", x.end(881), NONE);
        due.is("feed to 900", x.feed(0x20202020, 0x20202020, 0x20202020, 0x20202020, 0x20202020), 900);
        due.is("net() of blanks", x.net(), 0);
        due.is("about(6) behind net()", x.about(6), 0);
        due.is("end(1) behind net()", x.end(1), NONE);
        due.is("end(0) behind net()", x.end(0), 0);

        // The highest byte comes first: "plac" "e a " "7;\n\n" and the rest cut.
        due.is("feed", x.feed(0x706c6163, 0x65206120, 0x373b0a0a, 0x80818283, -1), 20);
        due.is("end(12)", x.end(12), 12);
        due.is("net()", x.net(), 1);
        due.is("tokens(0)", x.tokens(0), 7);
        due.is("feed", x.feed(0x706c6163, 0x65206120, 0x373b0a0a, 0x80818283, -1), 20);
        due.is("net()", x.net(), NONE);
        due.is("fault(0)", x.fault(0), 1);
        due.is("fault(1)", x.fault(1), 12);
        due.is("about(6) behind a fault", x.about(6), 0);
    }

    private static void netStays(Due due) {
        TokenSums x = Due.net("place a 5; place b; step s takes a gives b;");
        x.fire(0);
        x.aim(1, 3);
        Due.lay(x, "place c 1; place c;");
        due.is("net() with a fault", x.net(), NONE);
        due.is("fault(0)", x.fault(0), 3);
        due.is("fault(1)", x.fault(1), 17);
        due.is("tokens stay", x.tokens(0), 4);
        due.is("places stay", x.about(0), 2);
        due.is("acts stay", x.about(5), 1);
        due.is("aim stays", x.aim(1, 3), 3);
        due.is("undo still works", x.undo(), true);
        due.is("tokens undone", x.tokens(0), 5);
        x.fire(0);
        Due.lay(x, "place a 5; place b; step s takes a gives b;");
        due.is("net() anew", x.net(), 2);
        due.is("tokens as told", x.tokens(0), 5);
        due.is("no acts are kept", x.about(5), 0);
        due.is("nothing to undo", x.undo(), false);
        due.is("aim is 0", x.aim(1, 0), 0);
        due.is("fault(0) is gone", x.fault(0), 0);
        due.is("fault(1) is gone", x.fault(1), NONE);
    }

    private static void good(Due due) {
        due.taken("", 0);
        due.taken("  \n ", 0);
        due.taken("place a;", 1);
        due.taken("place a 99;", 1);
        due.taken("place a 0;", 1);
        due.taken("place abcdef007;", 1);
        due.taken("\nplace\na\n9\n;\n", 1);
        due.taken("step s;", 0);
        due.taken("step s;place p2;", 1);
        due.taken("step s;place a;step t takes a;place b;step u gives b takes a;", 2);
        due.taken("place a;step s takes3 a;", 1);
        TokenSums x = due.taken("place a;step s takes a takes 2 a gives a gives a gives 1 a;", 1);
        due.is("takes together", x.arc(0, 0, 0), 3);
        due.is("gives together", x.arc(0, 0, 1), 3);
        due.is("change", x.arc(0, 0, 2), 0);
        due.is("name with digits directly behind", due.taken("place a5;", 1).tokens(0), 5);
        due.is("three digits", due.taken("place a 012;", 1).tokens(0), 12);
        due.taken("place z;step places takes 003 z;", 1);
    }

    private static void notTokens(Due due) {
        due.refused("placeabc a;", 1, 0);
        due.refused("place abcdefg;", 1, 6);
        due.refused("place a 1234;", 1, 8);
        due.refused("place a 12b;", 1, 8);
        due.refused("place a5b;", 1, 7);
        due.refused("Place a;", 1, 0);
        due.refused("place a;\t", 1, 8);
        due.refused("place a; \r\n", 1, 9);
        due.refused("place a" + (char) 233 + ";", 1, 7);
        due.refused("place a" + (char) 0 + ";", 1, 7);
        due.refused("place a,", 1, 7);
        due.refused("place a;place b;step s takes 3a;", 1, 29);
        due.refused("place 1234", 1, 6);
        due.refused("placea;", 2, 0);
        due.refused("place a 5 !", 1, 10);
        due.refused("12b", 1, 0);
        due.refused("`", 1, 0);
        due.refused("{", 1, 0);
        due.refused("/", 1, 0);
        due.refused(":", 1, 0);
    }

    private static void cannotStand(Due due) {
        due.refused(";", 2, 0);
        due.refused("5", 2, 0);
        due.refused("a", 2, 0);
        due.refused("takes", 2, 0);
        due.refused("place", 2, 5);
        due.refused("place  ", 2, 7);
        due.refused("place ;", 2, 6);
        due.refused("place 5;", 2, 6);
        due.refused("place step;", 2, 6);
        due.refused("place place;", 2, 6);
        due.refused("place takes;", 2, 6);
        due.refused("place gives;", 2, 6);
        due.refused("place a b;", 2, 8);
        due.refused("place a 5 5;", 2, 10);
        due.refused("place a 5", 2, 9);
        due.refused("place a 5 \n", 2, 11);
        due.refused("place a;;", 2, 8);
        due.refused("step s", 2, 6);
        due.refused("step s 3;", 2, 7);
        due.refused("step s t;", 2, 7);
        due.refused("step s place;", 2, 7);
        due.refused("step step;", 2, 5);
        due.refused("place a;step s takes;", 2, 20);
        due.refused("place a;step s takes 2;", 2, 22);
        due.refused("place a;step s takes 2 2 a;", 2, 23);
        due.refused("place a;step s takes gives a;", 2, 21);
        due.refused("place a;step s takes a a;", 2, 23);
        due.refused("place a;step s takes a", 2, 22);
        due.refused("place a;step s takes a 2;", 2, 23);
    }

    private static void names(Due due) {
        due.refused("place a;place a;", 3, 14);
        due.refused("place a;step a;", 3, 13);
        due.refused("step s;place s;", 3, 13);
        due.refused("step s;step s;", 3, 12);
        due.refused("step s takes s;", 3, 13);
        due.refused("step s takes a;place a;", 3, 13);
        due.refused("place a;step s;step t gives 2 s;", 3, 30);
        due.refused("place a;step s takes 3 a gives b !", 3, 31);
        due.refused("place a;place a 100;", 3, 14);
    }

    private static void numbers(Due due) {
        due.refused("place a 100;", 4, 8);
        due.refused("place a 999", 4, 8);
        due.refused("place a;step s takes 0 a;", 4, 21);
        due.refused("place a;step s takes 4 a;", 4, 21);
        due.refused("place a;step s gives 000 b;", 4, 21);
        due.refused("place a;step s gives 999;", 4, 21);
        due.refused("place a;step s takes 2 a takes 2 a;", 4, 25);
        due.refused("place a;step s gives a gives a gives a gives a;", 4, 39);
        due.refused("place a;step s gives 3 a takes 3 a gives a !", 4, 35);
        due.refused("place a;step s takes 3 a takes b;", 3, 31);
        due.refused("place a;step s takes 3 a takes 4 a;", 4, 31);
    }

    private static void tooMany(Due due) {
        StringBuilder places = new StringBuilder();
        for (char c = 'a'; c < 'k'; c++) {
            places.append("place ").append(c).append(';');
        }
        due.taken(places.toString(), 10);
        due.refused(places + "place k;", 5, 80);
        due.refused(places + "place ", 5, 80);
        StringBuilder steps = new StringBuilder();
        for (char c = 'l'; c < 't'; c++) {
            steps.append("step ").append(c).append(';');
        }
        due.is("eight steps", due.taken(steps.toString(), 0).about(1), 8);
        due.refused(steps + "step a;", 5, 56);
        due.taken(places.toString() + steps, 10);
        due.refused(places.toString() + steps + " place !", 5, 137);
    }
}
