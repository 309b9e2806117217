import java.nio.charset.StandardCharsets;
import java.util.List;

/** What the tests share: texts fed to an object, answers held against those that are due. */
final class Due {
    /** What a call that must throw NoSuchElementException is held against. */
    static final long THROWN = Long.MIN_VALUE + 1;

    interface Maker {
        TokenSums make();
    }

    interface Call {
        long on(TokenSums x);
    }

    private final String name;
    private int wrong = 0;
    private int asked = 0;

    Due(String name) {
        this.name = name;
    }

    void is(String call, long got, long want) {
        asked++;
        if (got != want) {
            wrong++;
            System.out.println(name + ": " + call + " answered " + got + ", due is " + want);
        }
    }

    void is(String call, boolean got, boolean want) {
        is(call, got ? 1 : 0, want ? 1 : 0);
    }

    /** A call that is refused: what it answers, and that it changes nothing. */
    void nothing(String call, Maker maker, Call refused, long want) {
        TokenSums x = maker.make();
        is(call, refused.on(x), want);
        same(call + " changes nothing", Look.at(x, true), Look.at(maker.make(), true));
    }

    /** The same of a call that answers NONE. */
    void nothing(String call, Maker maker, Call refused) {
        nothing(call, maker, refused, TokenSums.NONE);
    }

    void same(String call, List<String> got, List<String> want) {
        asked++;
        for (int i = 0; i < Math.max(got.size(), want.size()); i++) {
            String g = i < got.size() ? got.get(i) : "nothing";
            String w = i < want.size() ? want.get(i) : "nothing";
            if (!g.equals(w)) {
                wrong++;
                System.out.println(name + ": " + call + ": " + g + ", due is " + w);
                return;
            }
        }
    }

    static long support(TokenSums x, int what, int k) {
        try {
            return x.support(what, k);
        } catch (java.util.NoSuchElementException e) {
            return THROWN;
        }
    }

    static long siphon(TokenSums x, int what, int k) {
        try {
            return x.siphon(what, k);
        } catch (java.util.NoSuchElementException e) {
            return THROWN;
        }
    }

    void noSupport(TokenSums x, int what, int k) {
        is("support(" + what + ", " + k + ") throws", support(x, what, k), THROWN);
    }

    void noSiphon(TokenSums x, int what, int k) {
        is("siphon(" + what + ", " + k + ") throws", siphon(x, what, k), THROWN);
    }

    /** A text that must be refused with this fault at this byte. */
    void refused(String text, int fault, int at) {
        TokenSums x = new TokenSums();
        lay(x, text);
        is("net() of '" + text + "'", x.net(), TokenSums.NONE);
        is("fault(0) of '" + text + "'", x.fault(0), fault);
        is("fault(1) of '" + text + "'", x.fault(1), at);
    }

    /** A text that must be taken, with so many places. */
    TokenSums taken(String text, int places) {
        TokenSums x = new TokenSums();
        lay(x, text);
        is("net() of '" + text + "'", x.net(), places);
        is("fault(0) of '" + text + "'", x.fault(0), 0);
        is("fault(1) of '" + text + "'", x.fault(1), TokenSums.NONE);
        return x;
    }

    static void lay(TokenSums x, String text) {
        byte[] bytes = text.getBytes(StandardCharsets.ISO_8859_1);
        for (int i = 0; i < bytes.length; i += 20) {
            x.feed(four(bytes, i), four(bytes, i + 4), four(bytes, i + 8), four(bytes, i + 12),
                    four(bytes, i + 16));
        }
        x.end(bytes.length);
    }

    static int four(byte[] bytes, int at) {
        int n = 0;
        for (int i = at; i < at + 4; i++) {
            n = n << 8 | (i < bytes.length ? bytes[i] & 255 : 32);
        }
        return n;
    }

    static TokenSums net(String text) {
        TokenSums x = new TokenSums();
        lay(x, text);
        if (x.net() == TokenSums.NONE) {
            throw new IllegalStateException("a test's own net is no net: " + text);
        }
        return x;
    }

    void close() {
        System.out.println(name + ": " + asked + " answers, " + wrong + " not as due");
        if (wrong != 0) {
            System.exit(1);
        }
    }
}
