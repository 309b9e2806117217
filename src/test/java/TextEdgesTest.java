/** The edges of promises 1 to 5 and of NET, TOKENS OF THE TEXT and FAULTS, a sentence each. */
public final class TextEdgesTest {
    private static final int NONE = TokenSums.NONE;
    private static final int BLANKS = 0x20202020;

    public static void main(String[] args) {
        Due due = new Due("TextEdgesTest");
        noPlacesNoSteps(due);
        highestFirst(due);
        moreThan900(due);
        longestNet(due);
        firstBytes(due);
        notSoMany(due);
        emptyThen(due);
        asTold(due);
        allElseStays(due);
        faultOfLatest(due);
        tenPlaces(due);
        eightSteps(due);
        toldTokens(due);
        arcTokens(due);
        countTogether(due);
        numberedAsTold(due);
        toldAhead(due);
        words(due);
        numbers(due);
        letterBehindDigit(due);
        blanks(due);
        everyByte(due);
        names(due);
        theEnd(due);
        firstByPlace(due);
        leastAtOnePlace(due);
        due.close();
    }

    private static TokenSums laid(String text) {
        TokenSums x = new TokenSums();
        Due.lay(x, text);
        return x;
    }

    private static String padded(String head, int length, String tail) {
        StringBuilder text = new StringBuilder(head);
        while (text.length() < length - tail.length()) {
            text.append(' ');
        }
        return text.append(tail).toString();
    }

    private static String places(int many) {
        StringBuilder text = new StringBuilder();
        for (int i = 0; i < many; i++) {
            text.append("place ").append((char) ('a' + i)).append(';');
        }
        return text.toString();
    }

    private static String steps(int many) {
        StringBuilder text = new StringBuilder();
        for (int i = 0; i < many; i++) {
            text.append("step ").append((char) ('p' + i)).append(';');
        }
        return text.toString();
    }

    // Promise 1: "No PLACES, no STEPS."
    private static void noPlacesNoSteps(Due due) {
        TokenSums x = new TokenSums();
        for (int what = 0; what < 8; what++) {
            due.is("about(" + what + ")", x.about(what), 0);
        }
        due.nothing("fire(0)", TokenSums::new, t -> t.fire(0));
        due.nothing("set(0, 1)", TokenSums::new, t -> t.set(0, 1));
        due.nothing("run(1, 1)", TokenSums::new, t -> t.run(1, 1));
        due.nothing("aim(0, 1)", TokenSums::new, t -> t.aim(0, 1));
        due.nothing("become()", TokenSums::new, t -> t.become());
        due.nothing("undo()", TokenSums::new, t -> t.undo() ? 1 : 0, 0);
        due.nothing("tokens(0)", TokenSums::new, t -> t.tokens(0));
        due.nothing("arc(0, 0, 0)", TokenSums::new, t -> t.arc(0, 0, 0), Integer.MIN_VALUE);
        due.nothing("support(0, 0)", TokenSums::new, t -> Due.support(t, 0, 0), Due.THROWN);
        due.nothing("support(1, 0)", TokenSums::new, t -> Due.support(t, 1, 0), Due.THROWN);
        due.nothing("siphon(0, 0)", TokenSums::new, t -> Due.siphon(t, 0, 0), Due.THROWN);
        due.nothing("siphon(1, 0)", TokenSums::new, t -> Due.siphon(t, 1, 0), Due.THROWN);
    }

    // Promise 2: "Twenty bytes come behind those on the TAPE, of each number the highest first".
    private static void highestFirst(Due due) {
        int[] bytes = {'!', 0, 127, 128, 255};
        for (int k = 0; k < 20; k++) {
            for (int b : bytes) {
                int[] n = {BLANKS, BLANKS, BLANKS, BLANKS, BLANKS};
                int shift = 24 - 8 * (k % 4);
                n[k / 4] = n[k / 4] & ~(255 << shift) | b << shift;
                TokenSums x = new TokenSums();
                due.is("feed of blanks", x.feed(BLANKS, BLANKS, BLANKS, BLANKS, BLANKS), 20);
                due.is("feed with byte " + b + " at " + k, x.feed(n[0], n[1], n[2], n[3], n[4]), 40);
                due.is("net() with byte " + b + " at " + k, x.net(), NONE);
                due.is("fault(0) with byte " + b + " at " + k, x.fault(0), 1);
                due.is("fault(1) with byte " + b + " at " + k, x.fault(1), 20 + k);
            }
        }
    }

    // Promise 2: "NONE, and nothing comes, if there would be more than 900."
    private static void moreThan900(Due due) {
        for (int have = 881; have <= 900; have++) {
            String text = padded("place a 7;", have, "place b 8;");
            due.nothing("feed at " + have, () -> laid(text), t -> t.feed(BLANKS, BLANKS, BLANKS, BLANKS, BLANKS));
        }
        for (int have = 860; have <= 880; have++) {
            TokenSums x = laid(padded("place a 7;", have, "place b 8;"));
            due.is("feed at " + have, x.feed(BLANKS, BLANKS, BLANKS, BLANKS, BLANKS), have + 20);
            due.is("about(6)", x.about(6), have + 20);
            due.is("net()", x.net(), 2);
        }
    }

    // Terms: "A NET is a text of at most 900 bytes".
    private static void longestNet(Due due) {
        due.is("the last byte of 900 is read", due.taken(padded("place a 7;", 900, "place b 8;"), 2).tokens(1), 8);
        due.is("the last byte of 899 is read", due.taken(padded("place a 7;", 899, "place b 8;"), 2).tokens(1), 8);
        due.refused(padded("place a 7;", 900, "place b 8"), 2, 900);
        due.refused(padded("place a 7;", 899, "place b 8"), 2, 899);
        due.refused(padded("place a 7;", 900, "!"), 1, 899);
        due.refused(padded("place a 7;", 900, "place b"), 2, 900);
        due.refused(padded("place a 7;", 900, "place"), 2, 900);
        due.refused(padded("place a 7;", 900, "plac"), 2, 896);
        due.refused(padded("place a 7;", 900, "place b 100;"), 4, 896);
        due.taken(padded("", 900, ""), 0);
    }

    // Promise 3: "The TAPE has its first n bytes: n".
    private static void firstBytes(Due due) {
        String text = "place a 1;place b 2;";
        int[] good = {0, 10, 20};
        for (int i = 0; i < good.length; i++) {
            TokenSums x = laid(text);
            due.is("end(" + good[i] + ")", x.end(good[i]), good[i]);
            due.is("about(6)", x.about(6), good[i]);
            due.is("net()", x.net(), i);
            due.is("tokens(0)", x.tokens(0), i > 0 ? 1 : NONE);
            due.is("tokens(1)", x.tokens(1), i > 1 ? 2 : NONE);
        }
        for (int n = 11; n < 20; n++) {
            TokenSums x = laid(text);
            due.is("end(" + n + ")", x.end(n), n);
            due.is("net()", x.net(), NONE);
        }
        TokenSums y = laid(text);
        y.end(10);
        // "place c 3;" and ten blanks come behind the first ten bytes.
        due.is("feed behind end(10)", y.feed(0x706c6163, 0x65206320, 0x333b2020, BLANKS, BLANKS), 30);
        due.is("net()", y.net(), 2);
        due.is("tokens(1)", y.tokens(1), 3);
    }

    // Promise 3: "NONE, doing nothing, if it has not so many, or n is below 0."
    private static void notSoMany(Due due) {
        String text = "place a 1;place b 2;";
        int[] wrong = {21, 22, 900, 901, -1, -2, Integer.MAX_VALUE, Integer.MIN_VALUE};
        for (int n : wrong) {
            due.nothing("end(" + n + ")", () -> laid(text), t -> t.end(n));
        }
        due.nothing("end(1) of an empty TAPE", TokenSums::new, t -> t.end(1));
        due.nothing("end(-1) of an empty TAPE", TokenSums::new, t -> t.end(-1));
        due.nothing("end(0) of an empty TAPE", TokenSums::new, t -> t.end(0), 0);
        due.nothing("end(11) behind end(10)", () -> {
            TokenSums x = laid(text);
            x.end(10);
            return x;
        }, t -> t.end(11));
        TokenSums full = laid(padded("", 900, ""));
        due.is("end(901) of 900", full.end(901), NONE);
        due.is("end(900) of 900", full.end(900), 900);
        due.is("end(899) of 900", full.end(899), 899);
        due.is("end(900) of 899", full.end(900), NONE);
    }

    // Promise 4: "The TAPE (empty then, also at a FAULT)".
    private static void emptyThen(Due due) {
        TokenSums x = laid("place a 1;");
        due.is("net()", x.net(), 1);
        due.is("about(6)", x.about(6), 0);
        due.is("end(1)", x.end(1), NONE);
        TokenSums y = laid("place a 1;place a");
        due.is("net() at a fault", y.net(), NONE);
        due.is("about(6) at a fault", y.about(6), 0);
        due.is("end(1) at a fault", y.end(1), NONE);
        Due.lay(y, "place a 1;");
        due.is("about(6): nothing of it is left", y.about(6), 10);
        due.is("net()", y.net(), 1);
    }

    /** An object with acts, an AIM, a become() and a fault behind it. */
    private static TokenSums used() {
        TokenSums x = Due.net("place a 3;place b;place c;step s takes a gives b;step t takes b gives 2 c;");
        Look.ask(x);
        x.fire(0);
        for (int p = 0; p < 3; p++) {
            x.aim(p, 4 + p);
        }
        x.set(1, 9);
        x.become();
        Due.lay(x, "place !");
        x.net();
        return x;
    }

    // Promise 4: "is the NET (all TOKENS as told, AIM all 0, no ACTS are kept): how many PLACES".
    private static void asTold(Due due) {
        String[] texts = {"", "place a;", "place a 9;place b 99;step s takes a gives b;step t;", "step s;",
            "place a;place b;place c;place d;step s takes a gives b;step t takes b gives 2 c;step u takes 3 c gives 3 a;",
            "place a 5;place b;", "place a 5;place b;step s takes a gives b;"};
        int[] places = {0, 1, 2, 0, 4, 2, 2};
        for (int i = 0; i < texts.length; i++) {
            TokenSums x = used();
            Due.lay(x, texts[i]);
            due.is("net() of '" + texts[i] + "'", x.net(), places[i]);
            due.same("net() of '" + texts[i] + "' on a used object", Look.at(x, true), Look.at(Due.net(texts[i]), true));
        }
        for (String text : texts) {
            TokenSums x = new TokenSums();
            Look.ask(x);
            Due.lay(x, text);
            x.net();
            due.same("net() of '" + text + "' on a new object that was asked all", Look.at(x, true), Look.at(Due.net(text), true));
        }
        // From each of them to each other, all asked ahead: nothing of the former net is left.
        for (String from : texts) {
            for (int i = 0; i < texts.length; i++) {
                TokenSums x = Due.net(from);
                Look.ask(x);
                Due.lay(x, texts[i]);
                due.is("net() of '" + texts[i] + "'", x.net(), places[i]);
                due.same("net() of '" + texts[i] + "' behind '" + from + "'", Look.at(x, true), Look.at(Due.net(texts[i]), true));
            }
        }
        TokenSums y = Due.net("place a 3;step s takes a;");
        y.aim(0, 7);
        due.is("net() without a feed: the empty net", y.net(), 0);
        due.same("net() without a feed", Look.at(y, true), Look.at(new TokenSums(), true));
    }

    // Promise 4: "NONE: a FAULT (all else stays)".
    private static void allElseStays(Due due) {
        String[] bad = {"!", "place", "place a;place a;", "place a 100;", places(11), steps(9),
            "place z 9;place y 9;step x takes 3 z gives y; place"};
        for (String text : bad) {
            TokenSums x = used();
            Due.lay(x, text);
            due.is("net() of '" + text + "'", x.net(), NONE);
            due.same("net() of '" + text + "' changes nothing else", Look.at(x, false), Look.at(used(), false));
        }
    }

    // Promise 5: "Of the latest net() what 0: its FAULT (0: without; ahead of any, too), 1: its place
    // (NONE likewise). NONE for another what."
    private static void faultOfLatest(Due due) {
        TokenSums x = new TokenSums();
        faults(due, x, "ahead of any", 0, NONE);
        Due.lay(x, "place a 100;");
        faults(due, x, "ahead of net()", 0, NONE);
        x.net();
        faults(due, x, "behind a bad one", 4, 8);
        Due.lay(x, "place a 10;");
        faults(due, x, "behind feed and end", 4, 8);
        x.net();
        faults(due, x, "behind a good one", 0, NONE);
        Due.lay(x, ";");
        x.net();
        faults(due, x, "at byte 0", 2, 0);
        Due.lay(x, " \n!");
        x.net();
        faults(due, x, "of the latest", 1, 2);
        x.net();
        faults(due, x, "behind an empty one", 0, NONE);
    }

    private static void faults(Due due, TokenSums x, String when, int fault, int at) {
        due.is("fault(0) " + when, x.fault(0), fault);
        due.is("fault(1) " + when, x.fault(1), at);
        due.is("fault(-1) " + when, x.fault(-1), NONE);
        due.is("fault(2) " + when, x.fault(2), NONE);
        due.is("fault(MAX) " + when, x.fault(Integer.MAX_VALUE), NONE);
        due.is("fault(MIN) " + when, x.fault(Integer.MIN_VALUE), NONE);
    }

    // Terms: "a PLACE, 10 at most"; FAULT 5 "one too many (at place, step)".
    private static void tenPlaces(Due due) {
        due.is("about(0)", due.taken(places(9), 9).about(0), 9);
        due.is("about(2)", due.taken(places(10), 10).about(2), 1023);
        due.refused(places(11), 5, 80);
        due.refused(places(12), 5, 80);
        due.refused(places(10) + "place", 5, 80);
        due.refused(places(10) + "  place a", 5, 82);
        due.taken(places(10) + steps(8), 10);
        due.refused(places(10) + "step s;place k;", 5, 87);
    }

    // Terms: "a STEP, 8 at most"; FAULT 5.
    private static void eightSteps(Due due) {
        due.is("about(1)", due.taken(steps(7), 0).about(1), 7);
        due.is("about(3)", due.taken(steps(8), 0).about(3), 255);
        due.refused(steps(9), 5, 56);
        due.refused(steps(10), 5, 56);
        due.refused(steps(8) + "step", 5, 56);
        due.refused(steps(8) + "\nstep p", 5, 57);
        due.taken(steps(8) + places(10), 10);
        due.refused(steps(8) + "place a;step z;", 5, 64);
    }

    // Terms: "with N TOKENS (0 .. 99; 0 without) at first"; FAULT 4 "N TOKENS above 99".
    private static void toldTokens(Due due) {
        due.is("without", due.taken("place a;", 1).tokens(0), 0);
        int[] good = {0, 1, 9, 10, 98, 99};
        for (int n : good) {
            due.is("with " + n, due.taken("place a " + n + ";", 1).tokens(0), n);
        }
        int[] bad = {100, 101, 199, 999};
        for (int n : bad) {
            due.refused("place a " + n + ";", 4, 8);
            due.refused("place a" + n, 4, 7);
        }
    }

    // Terms: "what it takes from, gives to PLACES (1 .. 3 TOKENS; 1 without"; FAULT 4 "behind takes,
    // gives 0 or above 3, at it".
    private static void arcTokens(Due due) {
        String[] sorts = {"takes", "gives"};
        for (int sort = 0; sort < 2; sort++) {
            String head = "place a;step s " + sorts[sort];
            due.is("without", due.taken(head + " a;", 1).arc(0, 0, sort), 1);
            due.is("of the other sort", due.taken(head + " a;", 1).arc(0, 0, 1 - sort), 0);
            for (int n = 1; n <= 3; n++) {
                due.is("with " + n, due.taken(head + " " + n + " a;", 1).arc(0, 0, sort), n);
            }
            String[] bad = {"0", "00", "000", "4", "5", "99", "100", "999"};
            for (String n : bad) {
                due.refused(head + " " + n + " a;", 4, 21);
                due.refused(head + n + " ;", 4, 20);
                due.refused(head + " " + n + " nobody;", 4, 21);
            }
        }
    }

    // Terms: "several of one sort with one PLACE count together, 3 at most"; FAULT 4 "that by which
    // they are above 3 together: at its takes or gives".
    private static void countTogether(Due due) {
        String[] sorts = {"takes", "gives"};
        for (int sort = 0; sort < 2; sort++) {
            String one = sorts[sort] + " a ";
            String two = sorts[sort] + " 2 a ";
            String three = sorts[sort] + " 3 a ";
            String head = "place a;place b;step s ";
            due.is("1 + 1", due.taken(head + one + one + ";", 2).arc(0, 0, sort), 2);
            due.is("1 + 2", due.taken(head + one + two + ";", 2).arc(0, 0, sort), 3);
            due.is("2 + 1", due.taken(head + two + one + ";", 2).arc(0, 0, sort), 3);
            due.is("1 + 1 + 1", due.taken(head + one + one + one + ";", 2).arc(0, 0, sort), 3);
            due.refused(head + two + two + ";", 4, 33);
            due.refused(head + three + one + ";", 4, 33);
            due.refused(head + one + three + ";", 4, 31);
            due.refused(head + one + one + two + ";", 4, 39);
            due.refused(head + one + one + one + one + ";", 4, 47);
            due.refused(head + two + one + three, 4, 41);
            // Apart: another sort, another PLACE, another STEP.
            String other = sorts[1 - sort] + " 3 a ";
            TokenSums x = due.taken(head + three + other + sorts[sort] + " 3 b;step t " + three + ";", 2);
            due.is("this sort", x.arc(0, 0, sort), 3);
            due.is("the other sort", x.arc(0, 0, 1 - sort), 3);
            due.is("the other place", x.arc(0, 1, sort), 3);
            due.is("the other step", x.arc(1, 0, sort), 3);
            due.refused(head + three + other + one + ";", 4, 43);
            due.refused(head + three + other + other + ";", 4, 43);
        }
    }

    // Terms: "PLACES, STEPS are numbered from 0 on as they are told".
    private static void numberedAsTold(Due due) {
        TokenSums x = due.taken("place z 5;step y takes z;place b 6;step a gives 2 z gives 3 b;place c 7;", 3);
        due.is("tokens(0)", x.tokens(0), 5);
        due.is("tokens(1)", x.tokens(1), 6);
        due.is("tokens(2)", x.tokens(2), 7);
        due.is("tokens(3)", x.tokens(3), NONE);
        due.is("arc(0, 0, 0)", x.arc(0, 0, 0), 1);
        due.is("arc(1, 0, 1)", x.arc(1, 0, 1), 2);
        due.is("arc(1, 1, 1)", x.arc(1, 1, 1), 3);
        due.is("arc(1, 2, 1)", x.arc(1, 2, 1), 0);
        // The tenth place and the eighth step are there, too.
        TokenSums y = due.taken(places(9) + "place j 4;" + steps(7) + "step z takes 2 j;", 10);
        due.is("tokens(9)", y.tokens(9), 4);
        due.is("arc(7, 9, 0)", y.arc(7, 9, 0), 2);
        due.is("can()", y.can(), 255);
    }

    // Terms: "a PLACE is told ahead of STEPS with it"; FAULT 3 "a NAME told already (of a PLACE or a
    // STEP: both are of one kind), or (behind takes, gives) that is no PLACE".
    private static void toldAhead(Due due) {
        due.taken("place a;step s takes a;", 1);
        due.refused("step s takes a;place a;", 3, 13);
        due.refused("step s gives 2 a;place a;", 3, 15);
        due.taken("step s;place a;step t gives a;", 1);
        due.refused("place a;step s;step t takes s;", 3, 28);
        due.refused("place a;step s takes s;", 3, 21);
        due.refused("place a;step s gives b;", 3, 21);
        due.refused("place a;place b;place a;", 3, 22);
        due.refused("place a;place b;place b 5;", 3, 22);
        due.refused("place a;step a;", 3, 13);
        due.refused("step s;place s;", 3, 13);
        due.refused("step s;step t;step s takes", 3, 19);
        // The tenth PLACE's and the eighth STEP's names are told as well.
        due.refused(places(10) + "step j;", 3, 85);
        due.refused(steps(8) + "place w;", 3, 62);
        due.refused(places(9) + "place i;", 3, 78);
        due.refused(steps(7) + "step v;", 3, 54);
        due.taken(places(10) + "step k takes j;", 10);
    }

    // TOKENS OF THE TEXT: "words (a .. z, 6 at most)"; FAULT 1 "a longer word".
    private static void words(Due due) {
        due.taken("place a;place aa;place aaa;place aaaa;place aaaaa;place aaaaaa;", 6);
        due.taken("place z;place zz;place zzzzzz;place azazaz;place zazaza;step mmmmmm takes zzzzzz;", 5);
        due.refused("place aaaaaaa;", 1, 6);
        due.refused("place aaaaaaaa;", 1, 6);
        due.refused("place abcdefghijklmnopqrstuvwxyz;", 1, 6);
        due.refused("place a;step abcdefg;", 1, 13);
        due.refused("place a;step s takes abcdefg;", 1, 21);
        due.refused("place a;step s takesab a;", 1, 15);
        due.refused("placeab;", 1, 0);
        due.refused("placea;", 2, 0);
        // Each is as long as can be.
        due.refused("place ab;step s takesa b;", 2, 16);
        due.taken("place abcdef;step s takes abcdef;", 1);
        due.refused("place abcdef;step s takes abcde;", 3, 26);
    }

    // TOKENS OF THE TEXT: "numbers (1 to 3 digits)"; FAULT 1 "more digits".
    private static void numbers(Due due) {
        String[] seven = {"7", "07", "007"};
        for (String n : seven) {
            due.is("place a " + n, due.taken("place a " + n + ";", 1).tokens(0), 7);
        }
        due.refused("place a 0007;", 1, 8);
        due.refused("place a 00007;", 1, 8);
        due.refused("place a 4294967303;", 1, 8);
        due.refused("place a 1000;", 1, 8);
        due.refused("place a0000", 1, 7);
        String[] two = {"2", "02", "002"};
        for (String n : two) {
            due.is("takes " + n, due.taken("place a;step s takes " + n + " a;", 1).arc(0, 0, 0), 2);
        }
        due.refused("place a;step s takes 0002 a;", 1, 21);
        due.is("000", due.taken("place a 000;", 1).tokens(0), 0);
        due.is("099", due.taken("place a 099;", 1).tokens(0), 99);
    }

    // TOKENS OF THE TEXT: "no letter directly behind a digit"; FAULT 1 "digits with a letter behind".
    private static void letterBehindDigit(Due due) {
        due.refused("place a 7a;", 1, 8);
        due.refused("place a 7z", 1, 8);
        due.refused("place a 123x", 1, 8);
        due.refused("place a 1234x", 1, 8);
        due.refused("place a7b;", 1, 7);
        due.refused("place 7b;", 1, 6);
        due.refused("7place a;", 1, 0);
        due.refused("place a;step s takes2a;", 1, 20);
        due.refused("place a;step s takes2 a gives 3place", 1, 30);
        due.taken("place a;step s takes2 a;", 1);
        due.taken("place a7;place b8\n;", 2);
        due.refused("place a 7 b;", 2, 10);
        due.refused("place a 7A;", 1, 9);
    }

    // TOKENS OF THE TEXT: "Blanks (32, 10) part them or not".
    private static void blanks(Due due) {
        String lf = "\n";
        due.is("tokens", due.taken(lf + " place" + lf + lf + "a" + lf + "7" + lf + ";" + lf, 1).tokens(0), 7);
        due.is("tokens", due.taken("  place  a  7  ;  ", 1).tokens(0), 7);
        due.is("tokens", due.taken("place a7;step s takes3 a gives2 a;", 1).tokens(0), 7);
        int[] none = {0, 1, 8, 9, 11, 12, 13, 31, 33, 127, 128, 138, 160, 255};
        for (int b : none) {
            due.refused("place" + (char) b + "a;", 1, 5);
            due.refused((char) b + "place a;", 1, 0);
            due.refused("place a;" + (char) b, 1, 8);
        }
    }

    /** FAULT 1 "another byte": each byte there is, where any token could come and behind a digit. */
    private static void everyByte(Due due) {
        for (int b = 0; b < 256; b++) {
            boolean letter = b >= 97 && b <= 122;
            boolean digit = b >= 48 && b <= 57;
            boolean blank = b == 32 || b == 10;
            String sign = String.valueOf((char) b);
            if (blank) {
                due.taken(sign, 0);
            } else {
                due.refused(sign, letter || digit || b == 59 ? 2 : 1, 0);
            }
            if (b == 59) {
                due.taken("place a" + sign, 1);
                due.taken("place a 5" + sign, 1);
            } else {
                due.refused("place a" + sign, letter || digit || blank ? 2 : 1, letter || digit || blank ? 8 : 7);
                due.refused("place a 5" + sign, digit || blank ? 2 : 1, letter ? 8 : digit || blank ? 10 : 9);
            }
        }
    }

    // TOKENS OF THE TEXT: "NAMES: words but place, step, takes, gives."
    private static void names(Due due) {
        String[] none = {"place", "step", "takes", "gives"};
        for (String n : none) {
            due.refused("place " + n + ";", 2, 6);
            due.refused("step " + n + ";", 2, 5);
            due.refused("place a;step s takes " + n + ";", 2, 21);
            due.refused("place a;step s gives 2 " + n + ";", 2, 23);
        }
        String[] good = {"plac", "places", "lace", "ste", "steps", "take", "takess", "give", "givess", "ives"};
        StringBuilder all = new StringBuilder();
        for (String n : good) {
            all.append("place ").append(n).append(';');
        }
        due.taken(all + "step s takes places takes steps gives takess;", 10);
    }

    // FAULTS: "the end: the text's length". Each beginning of a text, to which byte its fault points.
    private static void theEnd(Due due) {
        String text = "place ab 12;step s takes 2 ab;";
        int[] at = {-1, 0, 0, 0, 0, 5, 6, 7, 8, 9, 10, 11, -1, 12, 12, 12, 16, 17, 18, 19, 19, 19, 19, 19, 24, 25, 26, 27, 27, 29, -1};
        for (int n = 0; n < at.length; n++) {
            String part = text.substring(0, n);
            if (at[n] < 0) {
                due.taken(part, n == 0 ? 0 : 1);
            } else {
                // 28 bytes end in "a", which is a NAME, but no PLACE's.
                due.refused(part, n == 28 ? 3 : 2, at[n]);
            }
            // The same if the rest was on the TAPE: end(n) has cut it off.
            TokenSums x = laid(text);
            due.is("end(" + n + ")", x.end(n), n);
            due.is("net() behind end(" + n + ")", x.net(), at[n] >= 0 ? NONE : n == 0 ? 0 : 1);
            due.is("fault(0) behind end(" + n + ")", x.fault(0), at[n] < 0 ? 0 : n == 28 ? 3 : 2);
            due.is("fault(1) behind end(" + n + ")", x.fault(1), at[n]);
        }
        due.refused("place ab  ", 2, 10);
        due.refused("place ab\n\n\n", 2, 11);
        due.refused("place a;step s takes ", 2, 21);
    }

    // "FAULTS, the first by its place", whatever their numbers.
    private static void firstByPlace(Due due) {
        due.refused("place a 100;place a;", 4, 8);
        due.refused("place a;place a 100;", 3, 14);
        due.refused("place a;place a !", 3, 14);
        due.refused("place a b !", 2, 8);
        due.refused("place a 100 !", 4, 8);
        due.refused(places(11) + "!", 5, 80);
        due.refused(places(10) + "! place k;", 1, 80);
        due.refused("place a;step s takes 3 a takes a !", 4, 25);
        due.refused("place a;step s takes 3 a takes ! a", 1, 31);
        due.refused("place a;step s takes 3 a takes b gives 5 a", 3, 31);
        // A number above 3 is a fault itself, at it: it does not count together.
        due.refused("place a;step s takes 3 a takes 4 a;", 4, 31);
        due.refused("place a;step s takes 3 a takes 0 a;", 4, 31);
    }

    // FAULTS: "at one place the least".
    private static void leastAtOnePlace(Due due) {
        // 1, though it could not stand there either, or is a number too great.
        due.refused("place a 5 1000;", 1, 10);
        due.refused("place a abcdefg;", 1, 8);
        due.refused(";;!", 2, 0);
        due.refused("place a;step s takes 1000 a;", 1, 21);
        // 2, though it is a NAME told already, a number that can't be, one too many.
        due.refused("place a a;", 2, 8);
        due.refused("place a;step s a;", 2, 15);
        due.refused("place a;step s takes a a;", 2, 23);
        due.refused("place 100;", 2, 6);
        due.refused("place a 5 100;", 2, 10);
        due.refused("step s 4;", 2, 7);
        due.refused("place a;step s takes 2 4 a;", 2, 23);
        due.refused(places(10) + "step s place;", 2, 87);
        due.refused(steps(8) + "place a step;", 2, 64);
    }
}
