import java.util.ArrayList;
import java.util.List;

/** What holds for all calls: questions change nothing, any number may be asked, 512 calls are answered. */
public final class CallEdgesTest {
    private static final int[] ANY = {0, 1, 2, 3, 7, 8, 9, 10, 31, 32, 33, 299, 300, 301, 999, 1000, -1, -2, -31, -32,
        Integer.MAX_VALUE, Integer.MAX_VALUE - 1, Integer.MIN_VALUE, Integer.MIN_VALUE + 1};

    public static void main(String[] args) {
        Due due = new Due("CallEdgesTest");
        questionsChangeNothing(due);
        anyNumbers(due);
        fiveHundredAndTwelve(due);
        due.close();
    }

    /** With acts, an AIM, a fault, something on the TAPE, and a net that rules make smaller. */
    private static TokenSums used() {
        TokenSums x = Due.net("place a 3;place b;place c 1;step s takes a gives b;step t takes b gives 2 c;step u takes 3 c gives a;");
        Due.lay(x, "place !");
        x.net();
        x.fire(0);
        x.aim(0, 2);
        x.aim(2, 3);
        x.set(1, 2);
        Due.lay(x, "place k 5;step l takes k;");
        return x;
    }

    private static List<Due.Call> questions(int a, int b, int c) {
        List<Due.Call> all = new ArrayList<>();
        all.add(t -> t.fault(a));
        all.add(t -> t.about(a));
        all.add(t -> t.arc(a, b, c));
        all.add(t -> t.tokens(a));
        all.add(t -> t.kind(a));
        all.add(t -> t.can());
        all.add(t -> t.sums(a));
        all.add(t -> t.sum(a, b, c));
        all.add(t -> Due.support(t, a, b));
        all.add(t -> t.covered(a));
        all.add(t -> t.value(a));
        all.add(t -> t.bound(a));
        all.add(t -> t.siphons(a));
        all.add(t -> Due.siphon(t, a, b));
        all.add(t -> t.isSiphon(a, b));
        all.add(t -> t.greatest(a, b));
        all.add(t -> t.unguarded(a));
        all.add(t -> t.lost());
        all.add(t -> t.counts(a));
        all.add(t -> t.order(a));
        all.add(t -> t.reaches());
        all.add(t -> t.graph(a));
        all.add(t -> t.marking(a, b));
        all.add(t -> t.came(a, b));
        all.add(t -> t.live(a));
        all.add(t -> t.most(a));
        all.add(t -> t.reduce());
        all.add(t -> t.rule(a, b));
        all.add(t -> t.reduced(a));
        return all;
    }

    /** Each question that has an answer, asked twice: the same answer, and the object is as it was. */
    private static void questionsChangeNothing(Due due) {
        int[][] asked = {{0, 0, 0}, {1, 0, 1}, {1, 1, 2}, {2, 1, 0}};
        for (int[] n : asked) {
            List<Due.Call> all = questions(n[0], n[1], n[2]);
            for (int i = 0; i < all.size(); i++) {
                TokenSums x = used();
                String name = "question " + i + " of " + n[0] + ", " + n[1] + ", " + n[2];
                due.is(name + " asked again", all.get(i).on(x), all.get(i).on(x));
                due.same(name + " changes nothing", Look.at(x, true), Look.at(used(), true));
            }
        }
    }

    /** Any numbers may be asked: each call ends, throws nothing but what the document says, changes nothing. */
    private static void anyNumbers(Due due) {
        for (int a : ANY) {
            TokenSums x = used();
            for (int b : ANY) {
                for (Due.Call call : questions(a, b, a)) {
                    call.on(x);
                }
                x.arc(0, a, b);
                x.arc(a, 0, b);
                x.sum(0, a, b);
                x.sum(1, a, b);
            }
            due.same("questions of " + a, Look.at(x, true), Look.at(used(), true));
            TokenSums y = used();
            for (int b : ANY) {
                y.fire(a);
                y.set(a, b);
                y.run(a, b);
                y.aim(a, b);
                y.end(a);
                y.feed(a, b, a, b, a);
            }
            due.is("about(5) stays within 12", y.about(5) <= 12, true);
            due.is("about(6) stays within 900", y.about(6) <= 900, true);
            for (int p = 0; p < 3; p++) {
                due.is("tokens stay within 999", y.tokens(p) >= 0 && y.tokens(p) <= 999, true);
            }
        }
    }

    // "An object is used for at most 512 calls after it has been made": the last of them is answered, too.
    private static void fiveHundredAndTwelve(Due due) {
        TokenSums x = new TokenSums();
        for (int i = 1; i <= 45; i++) {
            due.is("feed " + i, x.feed(0x20202020, 0x20202020, 0x20202020, 0x20202020, 0x20202020), 20 * i);
        }
        due.is("end(0)", x.end(0), 0);
        // "place a;step s gives a;place b;step t takes a gives b;" by three feeds.
        due.is("feed", x.feed(0x706c6163, 0x6520613b, 0x73746570, 0x20732067, 0x69766573), 20);
        due.is("feed", x.feed(0x20613b70, 0x6c616365, 0x20623b73, 0x74657020, 0x74207461), 40);
        due.is("feed", x.feed(0x6b657320, 0x61206769, 0x76657320, 0x623b2020, 0x20202020), 60);
        due.is("net()", x.net(), 2);
        int calls = 50;
        int a = 0;
        int b = 0;
        while (calls + 8 <= 512) {
            due.is("fire(0)", x.fire(0), 3);
            due.is("fire(0)", x.fire(0), 3);
            due.is("fire(1)", x.fire(1), 3);
            a++;
            b++;
            due.is("tokens(0)", x.tokens(0), a);
            due.is("tokens(1)", x.tokens(1), b);
            due.is("graph(0)", x.graph(0), 300);
            due.is("reduce()", x.reduce(), 1);
            due.is("about(5)", x.about(5), Math.min(12, 3 * b));
            calls += 8;
        }
        for (; calls < 511; calls++) {
            due.is("can()", x.can(), 3);
        }
        due.is("the 512th call", x.undo(), true);
    }
}
