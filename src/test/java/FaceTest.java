import java.lang.reflect.Constructor;
import java.lang.reflect.Field;
import java.lang.reflect.Method;
import java.lang.reflect.Modifier;
import java.util.Arrays;
import java.util.HashSet;
import java.util.NoSuchElementException;
import java.util.Set;
import java.util.TreeSet;

/** The public face, the rules of LANGUAGE.md that can be seen from outside, and the room that calls take. */
public final class FaceTest {
    private static final String[] FACE = {
        "int feed(int,int,int,int,int)", "int end(int)", "int net()", "int fault(int)", "int about(int)",
        "int arc(int,int,int)", "int tokens(int)", "int kind(int)", "int fire(int)", "int set(int,int)",
        "int run(int,int)", "int can()", "boolean undo()", "int sums(int)", "int sum(int,int,int)",
        "int support(int,int)", "int covered(int)", "long value(int)", "long bound(int)", "int siphons(int)",
        "int siphon(int,int)", "int isSiphon(int,int)", "int greatest(int,int)", "int unguarded(int)", "int lost()",
        "int aim(int,int)", "int counts(int)", "int order(int)", "int reaches()", "int graph(int)",
        "int marking(int,int)", "int came(int,int)", "int live(int)", "int most(int)", "int reduce()",
        "int rule(int,int)", "int reduced(int)", "int become()"};

    public static void main(String[] args) throws Exception {
        Due due = new Due("FaceTest");
        methods(due);
        members(due);
        inside(due);
        room(due);
        due.close();
    }

    private static String told(Method m) {
        StringBuilder t = new StringBuilder(m.getReturnType() + " " + m.getName() + "(");
        for (Class<?> c : m.getParameterTypes()) {
            t.append(t.charAt(t.length() - 1) == '(' ? "" : ",").append(c);
        }
        return t + ")";
    }

    private static void methods(Due due) {
        Set<String> want = new TreeSet<>(Arrays.asList(FACE));
        Set<String> got = new TreeSet<>();
        for (Method m : TokenSums.class.getDeclaredMethods()) {
            if (!Modifier.isPrivate(m.getModifiers())) {
                got.add(told(m));
                due.is(m.getName() + " is public", Modifier.isPublic(m.getModifiers()) && !Modifier.isStatic(m.getModifiers()), true);
                boolean throwing = Arrays.asList(m.getExceptionTypes()).contains(NoSuchElementException.class);
                due.is(m.getName() + " tells of NoSuchElementException", throwing, m.getName().equals("support") || m.getName().equals("siphon"));
            }
        }
        due.is("the face " + got, got.equals(want), true);
    }

    private static void members(Due due) throws Exception {
        due.is("the class is public and final", Modifier.isPublic(TokenSums.class.getModifiers()) && Modifier.isFinal(TokenSums.class.getModifiers()), true);
        Constructor<?>[] made = TokenSums.class.getDeclaredConstructors();
        due.is("one constructor, public, without arguments", made.length == 1 && Modifier.isPublic(made[0].getModifiers()) && made[0].getParameterCount() == 0, true);
        for (Field f : TokenSums.class.getDeclaredFields()) {
            due.is(f.getName() + " is private, but NONE", Modifier.isPrivate(f.getModifiers()), !f.getName().equals("NONE"));
        }
        Field none = TokenSums.class.getDeclaredField("NONE");
        due.is("NONE is a public constant", Modifier.isPublic(none.getModifiers()) && Modifier.isStatic(none.getModifiers()) && Modifier.isFinal(none.getModifiers()), true);
        due.is("NONE", none.getInt(null), -1);
    }

    private static void inside(Due due) {
        Set<String> names = new HashSet<>();
        for (String f : FACE) {
            names.add(f.substring(f.indexOf(' ') + 1, f.indexOf('(')));
        }
        due.is("classes inside, some twelve at most", TokenSums.class.getDeclaredClasses().length <= 12, true);
        for (Class<?> c : TokenSums.class.getDeclaredClasses()) {
            due.is(c + " is static and not public", Modifier.isStatic(c.getModifiers()) && !Modifier.isPublic(c.getModifiers()), true);
            for (Method m : c.getDeclaredMethods()) {
                due.is(c + "." + m.getName() + " bears a name of the face", names.contains(m.getName()), false);
                due.is(c + "." + m.getName() + " takes seven at most", m.getParameterCount() <= 7, true);
            }
            int own = 0;
            for (Field f : c.getDeclaredFields()) {
                own += Modifier.isStatic(f.getModifiers()) ? 0 : 1;
                due.is(c + "." + f.getName() + " is no static state", !Modifier.isStatic(f.getModifiers()) || Modifier.isFinal(f.getModifiers()), true);
            }
            due.is(c + " has some twenty fields", own <= 20, true);
        }
        for (Method m : TokenSums.class.getDeclaredMethods()) {
            if (Modifier.isPrivate(m.getModifiers())) {
                due.is(m.getName() + " bears a name of the face", names.contains(m.getName()), false);
            }
        }
    }

    /** All calls of one run live in one room: the dearest ones, again and again, must make nothing. */
    private static void room(Due due) {
        com.sun.management.ThreadMXBean bean = (com.sun.management.ThreadMXBean) java.lang.management.ManagementFactory.getThreadMXBean();
        TokenSums x = Due.net("place a 5; place b 2; place c; step s takes a gives b; step t takes b gives c; step u takes c gives a; step v gives a;");
        dearest(x, 3);
        long before = bean.getThreadAllocatedBytes(Thread.currentThread().getId());
        dearest(x, 40);
        long made = bean.getThreadAllocatedBytes(Thread.currentThread().getId()) - before;
        due.is("bytes made by 40 turns of calls stay small", made < 4096, true);
    }

    private static void dearest(TokenSums x, int turns) {
        for (int i = 0; i < turns; i++) {
            x.set(0, 5 + i % 2);
            x.aim(1, i % 5);
            x.fire(0);
            x.graph(4);
            x.live(1);
            x.sums(0);
            x.sums(1);
            x.siphons(0);
            x.unguarded(-1);
            x.order(0);
            x.reaches();
            x.reduced(4);
            x.become();
            x.graph(4);
            x.sums(0);
            x.undo();
        }
    }
}
